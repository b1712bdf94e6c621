/-- TrunkRadio$State.hasControl -/
def fX4_hasControl (k : Nat) (b0 : Nat) : Nat → Nat → Int32 → ra_W → Option (Int32 × ra_W)
  | 0, _, _, _ => none
  | n + 1, L, v1, w => match L with
    | _ => if ra_in v1 2 then if (w (b0 + 6) (ra_ix v1)) = (-1) then (some (1, w)) else (some (0, w)) else none
theorem fX4_hasControl_0 (k : Nat) (b0 : Nat) (n : Nat) (v1 : Int32) (w : ra_W) : fX4_hasControl k b0 (n + 1) 0 v1 w = (if ra_in v1 2 then if (w (b0 + 6) (ra_ix v1)) = (-1) then (some (1, w)) else (some (0, w)) else none) := rfl
def FX4_hasControl (k : Nat) (b0 : Nat) (v1 : Int32) (w : ra_W) : Option (Int32 × ra_W) := fX4_hasControl k b0 k 0 v1 w
def pX4_hasControl_0 (Z : ra_Z) (r : Int32) (w1 : ra_W) (k : Nat) (b0 : Nat) (n : Nat) : Prop := ∀ (v1 : Int32) (w : ra_W), fX4_hasControl k b0 n 0 v1 w = some (r, w1) → ra_J Z 2 0 [(0, .ref ((zG Z).1 b0)), (1, .int v1)] [] w
set_option maxHeartbeats 4000000 in
theorem tX4_hasControl_0 {Z : ra_Z} {r : Int32} {w1 : ra_W} (C : ra_C Z cX4_hasControl 2 RX4 0 0) (hQ : ra_QI Z r w1) (hr : (zmt Z).sig.returnType = (some .boolean)) (k : Nat) (b0 : Nat) (h0 : ra_S b0) (n : Nat) : pX4_hasControl_0 Z r w1 k b0 (n + 1) := by
  intro v1 w hf
  rw [fX4_hasControl_0] at hf
  refine rg_aload_n (pc := 0) C 0 rfl rfl dX4_hasControl_0 ?_
  refine rg_get (pc := 1) C b0 4 5 h0.1 (by decide) rfl inlX4 (by decide) wd_145 rfl dX4_hasControl_1 ?_
  refine rg_iload_n (pc := 4) C 1 rfl rfl dX4_hasControl_4 ?_
  obtain ⟨g1, hf⟩ := ra_gd hf
  refine rg_iald (pc := 5) (j := (ra_ix v1)) C (b0 + 6) h0.2.2.2.2.2.2 rfl g1 dX4_hasControl_5 ?_
  refine rg_iconst (pc := 6) (v := (-1)) C dX4_hasControl_6 (by decide) ?_
  refine rg_icmp_ne (pc := 7) (tgt := 14) C dX4_hasControl_7 (by decide) (fun c2 => ?_) (fun c2 => ?_)
  · replace hf := ra_f hf c2
    refine rg_iconst (pc := 14) (v := 0) C dX4_hasControl_14 (by decide) ?_
    exact rg_zret (pc := 15) C hQ hr (by decide) hf dX4_hasControl_15
  · replace hf := ra_t hf c2
    refine rg_iconst (pc := 10) (v := 1) C dX4_hasControl_10 (by decide) ?_
    refine rg_goto (pc := 11) (tgt := 15) C dX4_hasControl_11 (by decide) ?_
    exact rg_zret (pc := 15) C hQ hr (by decide) hf dX4_hasControl_15
theorem tX4_hasControl {Z : ra_Z} {r : Int32} {w1 : ra_W} (C : ra_C Z cX4_hasControl 2 RX4 0 0) (hQ : ra_QI Z r w1) (hr : (zmt Z).sig.returnType = (some .boolean)) (k : Nat) (b0 : Nat) (h0 : ra_S b0) : ∀ n : Nat, pX4_hasControl_0 Z r w1 k b0 n := by
  intro n
  induction n with
  | zero => exact (fun _ _ h => by cases h)
  | succ n ih => exact tX4_hasControl_0 C hQ hr k b0 h0 n
theorem kX4_hasControl (l : Launch) (G : ra_G) (hj : ra_inj G) (k : Nat) (b0 : Nat) (h0 : ra_S b0) (v1 : Int32) (w : ra_W) (r : Int32) (w1 : ra_W) (h : FX4_hasControl k b0 v1 w = some (r, w1)) : ra_MI l G yX4_hasControl cX4_hasControl 2 (some .boolean) 0 0 [.ref (G.1 b0), .int v1] w r w1 :=
  ra_entryI (own := RX4) (by decide) rfl (Nat.le_of_ble_eq_true rfl) hj (fun Z hl hG C hQ hr => by subst hl; subst hG; exact (tX4_hasControl C hQ hr k b0 h0 k) _ _ h)
theorem ysX4_hasControl : ra_YV yX4_hasControl cX4_hasControl 2 (some .boolean) 1 RX4 := ⟨⟨wd_5, wd_357, by decide, by decide, by decide⟩, wd_355, wd_356⟩
/-- TrunkRadio$Air.isSentAt -/
def fX0_isSentAt (k : Nat) (b0 : Nat) : Nat → Nat → Int32 → Int32 → ra_W → Option (Int32 × ra_W)
  | 0, _, _, _, _ => none
  | n + 1, L, v1, v2, w => match L with
    | _ => if ra_in v2 7 then if (w (b0 + 2) (ra_ix v2)) = 1 then (if (w (b0 + 1) (ra_ix v2)) = v1 then (some (1, w)) else (some (0, w))) else (some (0, w)) else none
theorem fX0_isSentAt_0 (k : Nat) (b0 : Nat) (n : Nat) (v1 : Int32) (v2 : Int32) (w : ra_W) : fX0_isSentAt k b0 (n + 1) 0 v1 v2 w = (if ra_in v2 7 then if (w (b0 + 2) (ra_ix v2)) = 1 then (if (w (b0 + 1) (ra_ix v2)) = v1 then (some (1, w)) else (some (0, w))) else (some (0, w)) else none) := rfl
def FX0_isSentAt (k : Nat) (b0 : Nat) (v1 : Int32) (v2 : Int32) (w : ra_W) : Option (Int32 × ra_W) := fX0_isSentAt k b0 k 0 v1 v2 w
def pX0_isSentAt_0 (Z : ra_Z) (r : Int32) (w1 : ra_W) (k : Nat) (b0 : Nat) (n : Nat) : Prop := ∀ (v1 : Int32) (v2 : Int32) (w : ra_W), fX0_isSentAt k b0 n 0 v1 v2 w = some (r, w1) → ra_J Z 3 0 [(0, .ref ((zG Z).1 b0)), (1, .int v1), (2, .int v2)] [] w
set_option maxHeartbeats 4000000 in
theorem tX0_isSentAt_0 {Z : ra_Z} {r : Int32} {w1 : ra_W} (C : ra_C Z cX0_isSentAt 3 RX0 0 0) (hQ : ra_QI Z r w1) (hr : (zmt Z).sig.returnType = (some .boolean)) (k : Nat) (b0 : Nat) (h0 : ra_S b0) (n : Nat) : pX0_isSentAt_0 Z r w1 k b0 (n + 1) := by
  intro v1 v2 w hf
  rw [fX0_isSentAt_0] at hf
  refine rg_aload_n (pc := 0) C 0 rfl rfl dX0_isSentAt_0 ?_
  refine rg_get (pc := 1) C b0 4 1 h0.1 (by decide) rfl inlX4 (by decide) wd_134 rfl dX0_isSentAt_1 ?_
  refine rg_iload_n (pc := 4) C 2 rfl rfl dX0_isSentAt_4 ?_
  obtain ⟨g1, hf⟩ := ra_gd hf
  refine rg_iald (pc := 5) (j := (ra_ix v2)) C (b0 + 2) h0.2.2.1 rfl g1 dX0_isSentAt_5 ?_
  refine rg_iconst (pc := 6) (v := 1) C dX0_isSentAt_6 (by decide) ?_
  refine rg_icmp_ne (pc := 7) (tgt := 24) C dX0_isSentAt_7 (by decide) (fun c2 => ?_) (fun c2 => ?_)
  · replace hf := ra_f hf c2
    refine rg_iconst (pc := 24) (v := 0) C dX0_isSentAt_24 (by decide) ?_
    exact rg_zret (pc := 25) C hQ hr (by decide) hf dX0_isSentAt_25
  · replace hf := ra_t hf c2
    refine rg_aload_n (pc := 10) C 0 rfl rfl dX0_isSentAt_10 ?_
    refine rg_get (pc := 11) C b0 4 0 h0.1 (by decide) rfl inlX4 (by decide) wd_131 rfl dX0_isSentAt_11 ?_
    refine rg_iload_n (pc := 14) C 2 rfl rfl dX0_isSentAt_14 ?_
    refine rg_iald (pc := 15) (j := (ra_ix v2)) C (b0 + 1) h0.2.1 rfl g1 dX0_isSentAt_15 ?_
    refine rg_iload_n (pc := 16) C 1 rfl rfl dX0_isSentAt_16 ?_
    refine rg_icmp_ne (pc := 17) (tgt := 24) C dX0_isSentAt_17 (by decide) (fun c3 => ?_) (fun c3 => ?_)
    · replace hf := ra_f hf c3
      refine rg_iconst (pc := 24) (v := 0) C dX0_isSentAt_24 (by decide) ?_
      exact rg_zret (pc := 25) C hQ hr (by decide) hf dX0_isSentAt_25
    · replace hf := ra_t hf c3
      refine rg_iconst (pc := 20) (v := 1) C dX0_isSentAt_20 (by decide) ?_
      refine rg_goto (pc := 21) (tgt := 25) C dX0_isSentAt_21 (by decide) ?_
      exact rg_zret (pc := 25) C hQ hr (by decide) hf dX0_isSentAt_25
theorem tX0_isSentAt {Z : ra_Z} {r : Int32} {w1 : ra_W} (C : ra_C Z cX0_isSentAt 3 RX0 0 0) (hQ : ra_QI Z r w1) (hr : (zmt Z).sig.returnType = (some .boolean)) (k : Nat) (b0 : Nat) (h0 : ra_S b0) : ∀ n : Nat, pX0_isSentAt_0 Z r w1 k b0 n := by
  intro n
  induction n with
  | zero => exact (fun _ _ _ h => by cases h)
  | succ n ih => exact tX0_isSentAt_0 C hQ hr k b0 h0 n
theorem kX0_isSentAt (l : Launch) (G : ra_G) (hj : ra_inj G) (k : Nat) (b0 : Nat) (h0 : ra_S b0) (v1 : Int32) (v2 : Int32) (w : ra_W) (r : Int32) (w1 : ra_W) (h : FX0_isSentAt k b0 v1 v2 w = some (r, w1)) : ra_MI l G yX0_isSentAt cX0_isSentAt 3 (some .boolean) 0 0 [.ref (G.1 b0), .int v1, .int v2] w r w1 :=
  ra_entryI (own := RX0) (by decide) rfl (Nat.le_of_ble_eq_true rfl) hj (fun Z hl hG C hQ hr => by subst hl; subst hG; exact (tX0_isSentAt C hQ hr k b0 h0 k) _ _ _ h)
theorem ysX0_isSentAt : ra_YS yX0_isSentAt cX0_isSentAt 3 (some .boolean) 3 := ⟨⟨wd_4, wd_366, by decide, by decide, by decide⟩, wd_365⟩
/-- TrunkRadio$Air.heardAt -/
def fX0_heardAt (k : Nat) (b0 : Nat) (b1 : Nat) : Nat → Nat → Int32 → Int32 → Int32 → Int32 → ra_W → Option (Int32 × ra_W)
  | 0, _, _, _, _, _, _ => none
  | n + 1, L, v2, v3, v4, v5, w => match L with
    | 0 => fX0_heardAt k b0 b1 n 1 v2 0 (-9) 0 w
    | 1 => if (w b0 0) ≤ v5 then (if v3 = 1 then (some (v4, w)) else (some ((-9), w))) else (ra_bind (FX0_isSentAt k b1 v2 v5 w) (fun r3 w4 => if r3 = 0 then (fX0_heardAt k b0 b1 n 2 v2 v3 v4 v5 w4) else (if ra_in v5 7 then if (w4 (b1 + 4) (ra_ix v5)) = 1 then (some (v5, w4)) else (fX0_heardAt k b0 b1 n 2 v2 (v3 + 1) v5 v5 w4) else none)))
    | _ => fX0_heardAt k b0 b1 n 1 v2 v3 v4 (v5 + 1) w
theorem fX0_heardAt_0 (k : Nat) (b0 : Nat) (b1 : Nat) (n : Nat) (v2 : Int32) (v3 : Int32) (v4 : Int32) (v5 : Int32) (w : ra_W) : fX0_heardAt k b0 b1 (n + 1) 0 v2 v3 v4 v5 w = (fX0_heardAt k b0 b1 n 1 v2 0 (-9) 0 w) := rfl
theorem fX0_heardAt_1 (k : Nat) (b0 : Nat) (b1 : Nat) (n : Nat) (v2 : Int32) (v3 : Int32) (v4 : Int32) (v5 : Int32) (w : ra_W) : fX0_heardAt k b0 b1 (n + 1) 1 v2 v3 v4 v5 w = (if (w b0 0) ≤ v5 then (if v3 = 1 then (some (v4, w)) else (some ((-9), w))) else (ra_bind (FX0_isSentAt k b1 v2 v5 w) (fun r3 w4 => if r3 = 0 then (fX0_heardAt k b0 b1 n 2 v2 v3 v4 v5 w4) else (if ra_in v5 7 then if (w4 (b1 + 4) (ra_ix v5)) = 1 then (some (v5, w4)) else (fX0_heardAt k b0 b1 n 2 v2 (v3 + 1) v5 v5 w4) else none)))) := rfl
theorem fX0_heardAt_2 (k : Nat) (b0 : Nat) (b1 : Nat) (n : Nat) (v2 : Int32) (v3 : Int32) (v4 : Int32) (v5 : Int32) (w : ra_W) : fX0_heardAt k b0 b1 (n + 1) 2 v2 v3 v4 v5 w = (fX0_heardAt k b0 b1 n 1 v2 v3 v4 (v5 + 1) w) := rfl
def FX0_heardAt (k : Nat) (b0 : Nat) (b1 : Nat) (v2 : Int32) (w : ra_W) : Option (Int32 × ra_W) := fX0_heardAt k b0 b1 k 0 v2 0 0 0 w
def pX0_heardAt_0 (Z : ra_Z) (r : Int32) (w1 : ra_W) (k : Nat) (b0 : Nat) (b1 : Nat) (n : Nat) : Prop := ∀ (v2 : Int32) (v3 : Int32) (v4 : Int32) (v5 : Int32) (w : ra_W), fX0_heardAt k b0 b1 n 0 v2 v3 v4 v5 w = some (r, w1) → ra_J Z 6 0 [(0, .ref ((zG Z).1 b0)), (1, .ref ((zG Z).1 b1)), (2, .int v2)] [] w
def pX0_heardAt_1 (Z : ra_Z) (r : Int32) (w1 : ra_W) (k : Nat) (b0 : Nat) (b1 : Nat) (n : Nat) : Prop := ∀ (v2 : Int32) (v3 : Int32) (v4 : Int32) (v5 : Int32) (w : ra_W), fX0_heardAt k b0 b1 n 1 v2 v3 v4 v5 w = some (r, w1) → ra_J Z 6 9 [(0, .ref ((zG Z).1 b0)), (1, .ref ((zG Z).1 b1)), (2, .int v2), (3, .int v3), (4, .int v4), (5, .int v5)] [] w
def pX0_heardAt_2 (Z : ra_Z) (r : Int32) (w1 : ra_W) (k : Nat) (b0 : Nat) (b1 : Nat) (n : Nat) : Prop := ∀ (v2 : Int32) (v3 : Int32) (v4 : Int32) (v5 : Int32) (w : ra_W), fX0_heardAt k b0 b1 n 2 v2 v3 v4 v5 w = some (r, w1) → ra_J Z 6 49 [(0, .ref ((zG Z).1 b0)), (1, .ref ((zG Z).1 b1)), (2, .int v2), (3, .int v3), (4, .int v4), (5, .int v5)] [] w
set_option maxHeartbeats 4000000 in
theorem tX0_heardAt_0 {Z : ra_Z} {r : Int32} {w1 : ra_W} (C : ra_C Z cX0_heardAt 6 RX0 1 22) (hQ : ra_QI Z r w1) (hr : (zmt Z).sig.returnType = (some .int)) (k : Nat) (b0 : Nat) (b1 : Nat) (h0 : ra_N b0) (h1 : ra_S b1) (n : Nat) (ih1 : pX0_heardAt_1 Z r w1 k b0 b1 n) : pX0_heardAt_0 Z r w1 k b0 b1 (n + 1) := by
  intro v2 v3 v4 v5 w hf
  rw [fX0_heardAt_0] at hf
  refine rg_iconst (pc := 0) (v := 0) C dX0_heardAt_0 (by decide) ?_
  refine rg_istore_n (pc := 1) (lv' := [(0, .ref ((zG Z).1 b0)), (1, .ref ((zG Z).1 b1)), (2, .int v2), (3, .int 0)]) C [1, 2, 3, 0] rfl rfl (by decide) dX0_heardAt_1 ?_
  refine rg_bipush (pc := 2) (v := (-9)) C dX0_heardAt_2 (by decide) ?_
  refine rg_istore (pc := 4) (lv' := [(0, .ref ((zG Z).1 b0)), (1, .ref ((zG Z).1 b1)), (2, .int v2), (3, .int 0), (4, .int (-9))]) C [1, 2, 3, 4, 0] rfl (by decide) dX0_heardAt_4 ?_
  refine rg_iconst (pc := 6) (v := 0) C dX0_heardAt_6 (by decide) ?_
  refine rg_istore (pc := 7) (lv' := [(0, .ref ((zG Z).1 b0)), (1, .ref ((zG Z).1 b1)), (2, .int v2), (3, .int 0), (4, .int (-9)), (5, .int 0)]) C [1, 2, 3, 4, 5, 0] rfl (by decide) dX0_heardAt_7 ?_
  exact ih1 _ _ _ _ _ hf
set_option maxHeartbeats 4000000 in
theorem tX0_heardAt_1 {Z : ra_Z} {r : Int32} {w1 : ra_W} (C : ra_C Z cX0_heardAt 6 RX0 1 22) (hQ : ra_QI Z r w1) (hr : (zmt Z).sig.returnType = (some .int)) (k : Nat) (b0 : Nat) (b1 : Nat) (h0 : ra_N b0) (h1 : ra_S b1) (n : Nat) (ih2 : pX0_heardAt_2 Z r w1 k b0 b1 n) : pX0_heardAt_1 Z r w1 k b0 b1 (n + 1) := by
  intro v2 v3 v4 v5 w hf
  rw [fX0_heardAt_1] at hf
  refine rg_iload (pc := 9) C 5 rfl dX0_heardAt_9 ?_
  refine rg_aload_n (pc := 11) C 0 rfl rfl dX0_heardAt_11 ?_
  refine rg_get (pc := 12) C b0 2 0 h0.1 (by decide) rfl inlX2 (by decide) wd_66 rfl dX0_heardAt_12 ?_
  refine rg_icmp_ge (pc := 15) (tgt := 55) C dX0_heardAt_15 (by decide) (fun c1 => ?_) (fun c1 => ?_)
  · replace hf := ra_t hf c1
    refine rg_iload_n (pc := 55) C 3 rfl rfl dX0_heardAt_55 ?_
    refine rg_iconst (pc := 56) (v := 1) C dX0_heardAt_56 (by decide) ?_
    refine rg_icmp_ne (pc := 57) (tgt := 65) C dX0_heardAt_57 (by decide) (fun c2 => ?_) (fun c2 => ?_)
    · replace hf := ra_f hf c2
      refine rg_bipush (pc := 65) (v := (-9)) C dX0_heardAt_65 (by decide) ?_
      exact rg_iret (pc := 67) C hQ hr hf dX0_heardAt_67
    · replace hf := ra_t hf c2
      refine rg_iload (pc := 60) C 4 rfl dX0_heardAt_60 ?_
      refine rg_goto (pc := 62) (tgt := 67) C dX0_heardAt_62 (by decide) ?_
      exact rg_iret (pc := 67) C hQ hr hf dX0_heardAt_67
  · replace hf := ra_f hf c1
    refine rg_aload_n (pc := 18) C 1 rfl rfl dX0_heardAt_18 ?_
    refine rg_iload_n (pc := 19) C 2 rfl rfl dX0_heardAt_19 ?_
    refine rg_iload (pc := 20) C 5 rfl dX0_heardAt_20 ?_
    obtain ⟨r3, w4, e5, hf⟩ := ra_bd hf
    refine rg_callSI (pc := 22) (As := [.ref ((zG Z).1 b1), .int v2, .int v5]) (st := []) C (kX0_isSentAt (zl Z) (zG Z) C.hj k b1 h1 _ _ _ _ _ e5) ysX0_isSentAt rfl wd_364 ⟨Nat.le_of_ble_eq_true rfl, Nat.le_of_ble_eq_true rfl⟩ rfl (Nat.le_of_ble_eq_true rfl) dX0_heardAt_22 ?_
    refine rg_if_eq (pc := 25) (tgt := 49) C dX0_heardAt_25 (by decide) (fun c6 => ?_) (fun c6 => ?_)
    · replace hf := ra_t hf c6
      exact ih2 _ _ _ _ _ hf
    · replace hf := ra_f hf c6
      refine rg_aload_n (pc := 28) C 1 rfl rfl dX0_heardAt_28 ?_
      refine rg_get (pc := 29) C b1 4 3 h1.1 (by decide) rfl inlX4 (by decide) wd_140 rfl dX0_heardAt_29 ?_
      refine rg_iload (pc := 32) C 5 rfl dX0_heardAt_32 ?_
      obtain ⟨g7, hf⟩ := ra_gd hf
      refine rg_iald (pc := 34) (j := (ra_ix v5)) C (b1 + 4) h1.2.2.2.2.1 rfl g7 dX0_heardAt_34 ?_
      refine rg_iconst (pc := 35) (v := 1) C dX0_heardAt_35 (by decide) ?_
      refine rg_icmp_ne (pc := 36) (tgt := 42) C dX0_heardAt_36 (by decide) (fun c8 => ?_) (fun c8 => ?_)
      · replace hf := ra_f hf c8
        refine rg_iinc (pc := 42) (v := (v3 + 1)) (lv' := [(0, .ref ((zG Z).1 b0)), (1, .ref ((zG Z).1 b1)), (2, .int v2), (3, .int (v3 + 1)), (4, .int v4), (5, .int v5)]) C 3 rfl [1, 2, 3, 0, 4, 5] (ra_ii (by decide)) rfl (by decide) dX0_heardAt_42 ?_
        refine rg_iload (pc := 45) C 5 rfl dX0_heardAt_45 ?_
        refine rg_istore (pc := 47) (lv' := [(0, .ref ((zG Z).1 b0)), (1, .ref ((zG Z).1 b1)), (2, .int v2), (3, .int (v3 + 1)), (4, .int v5), (5, .int v5)]) C [1, 2, 3, 4, 0, 5] rfl (by decide) dX0_heardAt_47 ?_
        exact ih2 _ _ _ _ _ hf
      · replace hf := ra_t hf c8
        refine rg_iload (pc := 39) C 5 rfl dX0_heardAt_39 ?_
        exact rg_iret (pc := 41) C hQ hr hf dX0_heardAt_41
set_option maxHeartbeats 4000000 in
theorem tX0_heardAt_2 {Z : ra_Z} {r : Int32} {w1 : ra_W} (C : ra_C Z cX0_heardAt 6 RX0 1 22) (hQ : ra_QI Z r w1) (hr : (zmt Z).sig.returnType = (some .int)) (k : Nat) (b0 : Nat) (b1 : Nat) (h0 : ra_N b0) (h1 : ra_S b1) (n : Nat) (ih1 : pX0_heardAt_1 Z r w1 k b0 b1 n) : pX0_heardAt_2 Z r w1 k b0 b1 (n + 1) := by
  intro v2 v3 v4 v5 w hf
  rw [fX0_heardAt_2] at hf
  refine rg_iinc (pc := 49) (v := (v5 + 1)) (lv' := [(0, .ref ((zG Z).1 b0)), (1, .ref ((zG Z).1 b1)), (2, .int v2), (3, .int v3), (4, .int v4), (5, .int (v5 + 1))]) C 5 rfl [1, 2, 3, 4, 5, 0] (ra_ii (by decide)) rfl (by decide) dX0_heardAt_49 ?_
  refine rg_goto (pc := 52) (tgt := 9) C dX0_heardAt_52 (by decide) ?_
  exact ih1 _ _ _ _ _ hf
theorem tX0_heardAt {Z : ra_Z} {r : Int32} {w1 : ra_W} (C : ra_C Z cX0_heardAt 6 RX0 1 22) (hQ : ra_QI Z r w1) (hr : (zmt Z).sig.returnType = (some .int)) (k : Nat) (b0 : Nat) (b1 : Nat) (h0 : ra_N b0) (h1 : ra_S b1) : ∀ n : Nat, pX0_heardAt_0 Z r w1 k b0 b1 n ∧ pX0_heardAt_1 Z r w1 k b0 b1 n ∧ pX0_heardAt_2 Z r w1 k b0 b1 n := by
  intro n
  induction n with
  | zero => exact ⟨(fun _ _ _ _ _ h => by cases h), (fun _ _ _ _ _ h => by cases h), (fun _ _ _ _ _ h => by cases h)⟩
  | succ n ih =>
    obtain ⟨ih0, ih1, ih2⟩ := ih
    exact ⟨tX0_heardAt_0 C hQ hr k b0 b1 h0 h1 n ih1, tX0_heardAt_1 C hQ hr k b0 b1 h0 h1 n ih2, tX0_heardAt_2 C hQ hr k b0 b1 h0 h1 n ih1⟩
theorem kX0_heardAt (l : Launch) (G : ra_G) (hj : ra_inj G) (k : Nat) (b0 : Nat) (b1 : Nat) (h0 : ra_N b0) (h1 : ra_S b1) (v2 : Int32) (w : ra_W) (r : Int32) (w1 : ra_W) (h : FX0_heardAt k b0 b1 v2 w = some (r, w1)) : ra_MI l G yX0_heardAt cX0_heardAt 6 (some .int) 1 22 [.ref (G.1 b0), .ref (G.1 b1), .int v2] w r w1 :=
  ra_entryI (own := RX0) (by decide) rfl (Nat.le_of_ble_eq_true rfl) hj (fun Z hl hG C hQ hr => by subst hl; subst hG; exact (tX0_heardAt C hQ hr k b0 b1 h0 h1 k).1 _ _ _ _ _ h)
theorem ysX0_heardAt : ra_YS yX0_heardAt cX0_heardAt 6 (some .int) 3 := ⟨⟨wd_4, wd_363, by decide, by decide, by decide⟩, wd_362⟩
/-- TrunkRadio$State.enter -/
def fX4_enter (k : Nat) (b0 : Nat) : Nat → Nat → Int32 → Int32 → ra_W → Option (Int32 × ra_W)
  | 0, _, _, _, _ => none
  | n + 1, L, v1, v2, w => match L with
    | _ => if ra_in v1 7 then some (0, (ra_st (ra_st w (b0 + 2) (ra_ix v1) v2) (b0 + 3) (ra_ix v1) 0)) else none
theorem fX4_enter_0 (k : Nat) (b0 : Nat) (n : Nat) (v1 : Int32) (v2 : Int32) (w : ra_W) : fX4_enter k b0 (n + 1) 0 v1 v2 w = (if ra_in v1 7 then some (0, (ra_st (ra_st w (b0 + 2) (ra_ix v1) v2) (b0 + 3) (ra_ix v1) 0)) else none) := rfl
def FX4_enter (k : Nat) (b0 : Nat) (v1 : Int32) (v2 : Int32) (w : ra_W) : Option (Int32 × ra_W) := fX4_enter k b0 k 0 v1 v2 w
def pX4_enter_0 (Z : ra_Z) (r : Int32) (w1 : ra_W) (k : Nat) (b0 : Nat) (n : Nat) : Prop := ∀ (v1 : Int32) (v2 : Int32) (w : ra_W), fX4_enter k b0 n 0 v1 v2 w = some (r, w1) → ra_J Z 3 0 [(0, .ref ((zG Z).1 b0)), (1, .int v1), (2, .int v2)] [] w
set_option maxHeartbeats 4000000 in
theorem tX4_enter_0 {Z : ra_Z} {r : Int32} {w1 : ra_W} (C : ra_C Z cX4_enter 3 RX4 0 0) (hQ : ra_QV Z r w1) (hr : (zmt Z).sig.returnType = none) (k : Nat) (b0 : Nat) (h0 : ra_S b0) (n : Nat) : pX4_enter_0 Z r w1 k b0 (n + 1) := by
  intro v1 v2 w hf
  rw [fX4_enter_0] at hf
  refine rg_aload_n (pc := 0) C 0 rfl rfl dX4_enter_0 ?_
  refine rg_get (pc := 1) C b0 4 1 h0.1 (by decide) rfl inlX4 (by decide) wd_133 rfl dX4_enter_1 ?_
  refine rg_iload_n (pc := 4) C 1 rfl rfl dX4_enter_4 ?_
  refine rg_iload_n (pc := 5) C 2 rfl rfl dX4_enter_5 ?_
  obtain ⟨g1, hf⟩ := ra_gd hf
  refine rg_iast (pc := 6) (j := (ra_ix v1)) C (b0 + 2) h0.2.2.1 rfl g1 dX4_enter_6 ?_
  refine rg_aload_n (pc := 7) C 0 rfl rfl dX4_enter_7 ?_
  refine rg_get (pc := 8) C b0 4 2 h0.1 (by decide) rfl inlX4 (by decide) wd_136 rfl dX4_enter_8 ?_
  refine rg_iload_n (pc := 11) C 1 rfl rfl dX4_enter_11 ?_
  refine rg_iconst (pc := 12) (v := 0) C dX4_enter_12 (by decide) ?_
  refine rg_iast (pc := 13) (j := (ra_ix v1)) C (b0 + 3) h0.2.2.2.1 rfl g1 dX4_enter_13 ?_
  exact rg_vret (pc := 14) C hQ hr hf dX4_enter_14
theorem tX4_enter {Z : ra_Z} {r : Int32} {w1 : ra_W} (C : ra_C Z cX4_enter 3 RX4 0 0) (hQ : ra_QV Z r w1) (hr : (zmt Z).sig.returnType = none) (k : Nat) (b0 : Nat) (h0 : ra_S b0) : ∀ n : Nat, pX4_enter_0 Z r w1 k b0 n := by
  intro n
  induction n with
  | zero => exact (fun _ _ _ h => by cases h)
  | succ n ih => exact tX4_enter_0 C hQ hr k b0 h0 n
theorem kX4_enter (l : Launch) (G : ra_G) (hj : ra_inj G) (k : Nat) (b0 : Nat) (h0 : ra_S b0) (v1 : Int32) (v2 : Int32) (w : ra_W) (r : Int32) (w1 : ra_W) (h : FX4_enter k b0 v1 v2 w = some (r, w1)) : ra_MV l G yX4_enter cX4_enter 3 none 0 0 [.ref (G.1 b0), .int v1, .int v2] w r w1 :=
  ra_entryV (own := RX4) (by decide) rfl (Nat.le_of_ble_eq_true rfl) hj (fun Z hl hG C hQ hr => by subst hl; subst hG; exact (tX4_enter C hQ hr k b0 h0 k) _ _ _ h)
theorem ysX4_enter : ra_YV yX4_enter cX4_enter 3 none 2 RX4 := ⟨⟨wd_5, wd_330, by decide, by decide, by decide⟩, wd_328, wd_329⟩
/-- TrunkRadio$Air.hear -/
def fX0_hear (k : Nat) (b0 : Nat) (b1 : Nat) : Nat → Nat → Int32 → Int32 → Int32 → ra_W → Option (Int32 × ra_W)
  | 0, _, _, _, _, _ => none
  | n + 1, L, v2, v3, v4, w => match L with
    | 0 => ra_bind (FX0_heardAt k b0 b1 v2 w) (fun r1 w2 => fX0_hear k b0 b1 n 1 v2 r1 0 w2)
    | 1 => if (w b0 0) ≤ v4 then (some (0, w)) else (ra_bind (FX0_isSentAt k b1 v2 v4 w) (fun r2 w3 => if r2 = 0 then (fX0_hear k b0 b1 n 2 v2 v3 v4 w3) else (if v4 = v3 then (ra_bind (FX4_enter k b1 v4 3 w3) (fun _ w9 => fX0_hear k b0 b1 n 2 v2 v3 v4 w9)) else (if ra_in v4 7 then fX0_hear k b0 b1 n 2 v2 v3 v4 (ra_st (ra_st w3 (b1 + 2) (ra_ix v4) 2) (b1 + 3) (ra_ix v4) (1 + (v4 - v4 / 3 * 3))) else none))))
    | _ => fX0_hear k b0 b1 n 1 v2 v3 (v4 + 1) w
theorem fX0_hear_0 (k : Nat) (b0 : Nat) (b1 : Nat) (n : Nat) (v2 : Int32) (v3 : Int32) (v4 : Int32) (w : ra_W) : fX0_hear k b0 b1 (n + 1) 0 v2 v3 v4 w = (ra_bind (FX0_heardAt k b0 b1 v2 w) (fun r1 w2 => fX0_hear k b0 b1 n 1 v2 r1 0 w2)) := rfl
theorem fX0_hear_1 (k : Nat) (b0 : Nat) (b1 : Nat) (n : Nat) (v2 : Int32) (v3 : Int32) (v4 : Int32) (w : ra_W) : fX0_hear k b0 b1 (n + 1) 1 v2 v3 v4 w = (if (w b0 0) ≤ v4 then (some (0, w)) else (ra_bind (FX0_isSentAt k b1 v2 v4 w) (fun r2 w3 => if r2 = 0 then (fX0_hear k b0 b1 n 2 v2 v3 v4 w3) else (if v4 = v3 then (ra_bind (FX4_enter k b1 v4 3 w3) (fun _ w9 => fX0_hear k b0 b1 n 2 v2 v3 v4 w9)) else (if ra_in v4 7 then fX0_hear k b0 b1 n 2 v2 v3 v4 (ra_st (ra_st w3 (b1 + 2) (ra_ix v4) 2) (b1 + 3) (ra_ix v4) (1 + (v4 - v4 / 3 * 3))) else none))))) := rfl
theorem fX0_hear_2 (k : Nat) (b0 : Nat) (b1 : Nat) (n : Nat) (v2 : Int32) (v3 : Int32) (v4 : Int32) (w : ra_W) : fX0_hear k b0 b1 (n + 1) 2 v2 v3 v4 w = (fX0_hear k b0 b1 n 1 v2 v3 (v4 + 1) w) := rfl
def FX0_hear (k : Nat) (b0 : Nat) (b1 : Nat) (v2 : Int32) (w : ra_W) : Option (Int32 × ra_W) := fX0_hear k b0 b1 k 0 v2 0 0 w
def pX0_hear_0 (Z : ra_Z) (r : Int32) (w1 : ra_W) (k : Nat) (b0 : Nat) (b1 : Nat) (n : Nat) : Prop := ∀ (v2 : Int32) (v3 : Int32) (v4 : Int32) (w : ra_W), fX0_hear k b0 b1 n 0 v2 v3 v4 w = some (r, w1) → ra_J Z 5 0 [(0, .ref ((zG Z).1 b0)), (1, .ref ((zG Z).1 b1)), (2, .int v2)] [] w
def pX0_hear_1 (Z : ra_Z) (r : Int32) (w1 : ra_W) (k : Nat) (b0 : Nat) (b1 : Nat) (n : Nat) : Prop := ∀ (v2 : Int32) (v3 : Int32) (v4 : Int32) (w : ra_W), fX0_hear k b0 b1 n 1 v2 v3 v4 w = some (r, w1) → ra_J Z 5 10 [(0, .ref ((zG Z).1 b0)), (1, .ref ((zG Z).1 b1)), (2, .int v2), (3, .int v3), (4, .int v4)] [] w
def pX0_hear_2 (Z : ra_Z) (r : Int32) (w1 : ra_W) (k : Nat) (b0 : Nat) (b1 : Nat) (n : Nat) : Prop := ∀ (v2 : Int32) (v3 : Int32) (v4 : Int32) (w : ra_W), fX0_hear k b0 b1 n 2 v2 v3 v4 w = some (r, w1) → ra_J Z 5 69 [(0, .ref ((zG Z).1 b0)), (1, .ref ((zG Z).1 b1)), (2, .int v2), (3, .int v3), (4, .int v4)] [] w
set_option maxHeartbeats 4000000 in
theorem tX0_hear_0 {Z : ra_Z} {r : Int32} {w1 : ra_W} (C : ra_C Z cX0_hear 5 RX0 2 47) (hQ : ra_QV Z r w1) (hr : (zmt Z).sig.returnType = none) (k : Nat) (b0 : Nat) (b1 : Nat) (h0 : ra_N b0) (h1 : ra_S b1) (n : Nat) (ih1 : pX0_hear_1 Z r w1 k b0 b1 n) : pX0_hear_0 Z r w1 k b0 b1 (n + 1) := by
  intro v2 v3 v4 w hf
  rw [fX0_hear_0] at hf
  refine rg_aload_n (pc := 0) C 0 rfl rfl dX0_hear_0 ?_
  refine rg_aload_n (pc := 1) C 1 rfl rfl dX0_hear_1 ?_
  refine rg_iload_n (pc := 2) C 2 rfl rfl dX0_hear_2 ?_
  obtain ⟨r1, w2, e3, hf⟩ := ra_bd hf
  refine rg_callSI (pc := 3) (As := [.ref ((zG Z).1 b0), .ref ((zG Z).1 b1), .int v2]) (st := []) C (kX0_heardAt (zl Z) (zG Z) C.hj k b0 b1 h0 h1 _ _ _ _ e3) ysX0_heardAt rfl wd_361 ⟨Nat.le_of_ble_eq_true rfl, Nat.le_of_ble_eq_true rfl⟩ rfl (Nat.le_of_ble_eq_true rfl) dX0_hear_3 ?_
  refine rg_istore_n (pc := 6) (lv' := [(0, .ref ((zG Z).1 b0)), (1, .ref ((zG Z).1 b1)), (2, .int v2), (3, .int r1)]) C [1, 2, 3, 0] rfl rfl (by decide) dX0_hear_6 ?_
  refine rg_iconst (pc := 7) (v := 0) C dX0_hear_7 (by decide) ?_
  refine rg_istore (pc := 8) (lv' := [(0, .ref ((zG Z).1 b0)), (1, .ref ((zG Z).1 b1)), (2, .int v2), (3, .int r1), (4, .int 0)]) C [1, 2, 3, 4, 0] rfl (by decide) dX0_hear_8 ?_
  exact ih1 _ _ _ _ hf
set_option maxHeartbeats 4000000 in
theorem tX0_hear_1 {Z : ra_Z} {r : Int32} {w1 : ra_W} (C : ra_C Z cX0_hear 5 RX0 2 47) (hQ : ra_QV Z r w1) (hr : (zmt Z).sig.returnType = none) (k : Nat) (b0 : Nat) (b1 : Nat) (h0 : ra_N b0) (h1 : ra_S b1) (n : Nat) (ih2 : pX0_hear_2 Z r w1 k b0 b1 n) : pX0_hear_1 Z r w1 k b0 b1 (n + 1) := by
  intro v2 v3 v4 w hf
  rw [fX0_hear_1] at hf
  refine rg_iload (pc := 10) C 4 rfl dX0_hear_10 ?_
  refine rg_aload_n (pc := 12) C 0 rfl rfl dX0_hear_12 ?_
  refine rg_get (pc := 13) C b0 2 0 h0.1 (by decide) rfl inlX2 (by decide) wd_66 rfl dX0_hear_13 ?_
  refine rg_icmp_ge (pc := 16) (tgt := 75) C dX0_hear_16 (by decide) (fun c1 => ?_) (fun c1 => ?_)
  · replace hf := ra_t hf c1
    exact rg_vret (pc := 75) C hQ hr hf dX0_hear_75
  · replace hf := ra_f hf c1
    refine rg_aload_n (pc := 19) C 1 rfl rfl dX0_hear_19 ?_
    refine rg_iload_n (pc := 20) C 2 rfl rfl dX0_hear_20 ?_
    refine rg_iload (pc := 21) C 4 rfl dX0_hear_21 ?_
    obtain ⟨r2, w3, e4, hf⟩ := ra_bd hf
    refine rg_callSI (pc := 23) (As := [.ref ((zG Z).1 b1), .int v2, .int v4]) (st := []) C (kX0_isSentAt (zl Z) (zG Z) C.hj k b1 h1 _ _ _ _ _ e4) ysX0_isSentAt rfl wd_364 ⟨Nat.le_of_ble_eq_true rfl, Nat.le_of_ble_eq_true rfl⟩ rfl (Nat.le_of_ble_eq_true rfl) dX0_hear_23 ?_
    refine rg_if_ne (pc := 26) (tgt := 32) C dX0_hear_26 (by decide) (fun c5 => ?_) (fun c5 => ?_)
    · replace hf := ra_f hf c5
      refine rg_iload (pc := 32) C 4 rfl dX0_hear_32 ?_
      refine rg_iload_n (pc := 34) C 3 rfl rfl dX0_hear_34 ?_
      refine rg_icmp_ne (pc := 35) (tgt := 48) C dX0_hear_35 (by decide) (fun c6 => ?_) (fun c6 => ?_)
      · replace hf := ra_f hf c6
        refine rg_aload_n (pc := 48) C 1 rfl rfl dX0_hear_48 ?_
        refine rg_get (pc := 49) C b1 4 1 h1.1 (by decide) rfl inlX4 (by decide) wd_134 rfl dX0_hear_49 ?_
        refine rg_iload (pc := 52) C 4 rfl dX0_hear_52 ?_
        refine rg_iconst (pc := 54) (v := 2) C dX0_hear_54 (by decide) ?_
        obtain ⟨g7, hf⟩ := ra_gd hf
        refine rg_iast (pc := 55) (j := (ra_ix v4)) C (b1 + 2) h1.2.2.1 rfl g7 dX0_hear_55 ?_
        refine rg_aload_n (pc := 56) C 1 rfl rfl dX0_hear_56 ?_
        refine rg_get (pc := 57) C b1 4 2 h1.1 (by decide) rfl inlX4 (by decide) wd_137 rfl dX0_hear_57 ?_
        refine rg_iload (pc := 60) C 4 rfl dX0_hear_60 ?_
        refine rg_iconst (pc := 62) (v := 1) C dX0_hear_62 (by decide) ?_
        refine rg_iload (pc := 63) C 4 rfl dX0_hear_63 ?_
        refine rg_iconst (pc := 65) (v := 3) C dX0_hear_65 (by decide) ?_
        refine rg_irem (pc := 66) C (by decide) dX0_hear_66 ?_
        refine rg_iadd (pc := 67) C dX0_hear_67 ?_
        refine rg_iast (pc := 68) (j := (ra_ix v4)) C (b1 + 3) h1.2.2.2.1 rfl g7 dX0_hear_68 ?_
        exact ih2 _ _ _ _ hf
      · replace hf := ra_t hf c6
        refine rg_aload_n (pc := 38) C 1 rfl rfl dX0_hear_38 ?_
        refine rg_iload (pc := 39) C 4 rfl dX0_hear_39 ?_
        refine rg_iconst (pc := 41) (v := 3) C dX0_hear_41 (by decide) ?_
        obtain ⟨r8, w9, e10, hf⟩ := ra_bd hf
        refine rg_callVV (pc := 42) (As := [.int v4, .int 3]) (st := []) C (kX4_enter (zl Z) (zG Z) C.hj k b1 h1 _ _ _ _ _ e10) h1.1 (by decide) rfl ysX4_enter rfl wd_367 ⟨Nat.le_of_ble_eq_true rfl, Nat.le_of_ble_eq_true rfl⟩ rfl (Nat.le_of_ble_eq_true rfl) dX0_hear_42 ?_
        refine rg_goto (pc := 45) (tgt := 69) C dX0_hear_45 (by decide) ?_
        exact ih2 _ _ _ _ hf
    · replace hf := ra_t hf c5
      refine rg_goto (pc := 29) (tgt := 69) C dX0_hear_29 (by decide) ?_
      exact ih2 _ _ _ _ hf
set_option maxHeartbeats 4000000 in
theorem tX0_hear_2 {Z : ra_Z} {r : Int32} {w1 : ra_W} (C : ra_C Z cX0_hear 5 RX0 2 47) (hQ : ra_QV Z r w1) (hr : (zmt Z).sig.returnType = none) (k : Nat) (b0 : Nat) (b1 : Nat) (h0 : ra_N b0) (h1 : ra_S b1) (n : Nat) (ih1 : pX0_hear_1 Z r w1 k b0 b1 n) : pX0_hear_2 Z r w1 k b0 b1 (n + 1) := by
  intro v2 v3 v4 w hf
  rw [fX0_hear_2] at hf
  refine rg_iinc (pc := 69) (v := (v4 + 1)) (lv' := [(0, .ref ((zG Z).1 b0)), (1, .ref ((zG Z).1 b1)), (2, .int v2), (3, .int v3), (4, .int (v4 + 1))]) C 4 rfl [1, 2, 3, 4, 0] (ra_ii (by decide)) rfl (by decide) dX0_hear_69 ?_
  refine rg_goto (pc := 72) (tgt := 10) C dX0_hear_72 (by decide) ?_
  exact ih1 _ _ _ _ hf
theorem tX0_hear {Z : ra_Z} {r : Int32} {w1 : ra_W} (C : ra_C Z cX0_hear 5 RX0 2 47) (hQ : ra_QV Z r w1) (hr : (zmt Z).sig.returnType = none) (k : Nat) (b0 : Nat) (b1 : Nat) (h0 : ra_N b0) (h1 : ra_S b1) : ∀ n : Nat, pX0_hear_0 Z r w1 k b0 b1 n ∧ pX0_hear_1 Z r w1 k b0 b1 n ∧ pX0_hear_2 Z r w1 k b0 b1 n := by
  intro n
  induction n with
  | zero => exact ⟨(fun _ _ _ _ h => by cases h), (fun _ _ _ _ h => by cases h), (fun _ _ _ _ h => by cases h)⟩
  | succ n ih =>
    obtain ⟨ih0, ih1, ih2⟩ := ih
    exact ⟨tX0_hear_0 C hQ hr k b0 b1 h0 h1 n ih1, tX0_hear_1 C hQ hr k b0 b1 h0 h1 n ih2, tX0_hear_2 C hQ hr k b0 b1 h0 h1 n ih1⟩
theorem kX0_hear (l : Launch) (G : ra_G) (hj : ra_inj G) (k : Nat) (b0 : Nat) (b1 : Nat) (h0 : ra_N b0) (h1 : ra_S b1) (v2 : Int32) (w : ra_W) (r : Int32) (w1 : ra_W) (h : FX0_hear k b0 b1 v2 w = some (r, w1)) : ra_MV l G yX0_hear cX0_hear 5 none 2 47 [.ref (G.1 b0), .ref (G.1 b1), .int v2] w r w1 :=
  ra_entryV (own := RX0) (by decide) rfl (Nat.le_of_ble_eq_true rfl) hj (fun Z hl hG C hQ hr => by subst hl; subst hG; exact (tX0_hear C hQ hr k b0 b1 h0 h1 k).1 _ _ _ _ h)
theorem ysX0_hear : ra_YS yX0_hear cX0_hear 5 none 3 := ⟨⟨wd_4, wd_360, by decide, by decide, by decide⟩, wd_359⟩
/-- TrunkRadio$Air.isSoftTaken -/
def fX0_isSoftTaken (k : Nat) (b0 : Nat) (b1 : Nat) : Nat → Nat → Int32 → Int32 → Int32 → Int32 → Int32 → ra_W → Option (Int32 × ra_W)
  | 0, _, _, _, _, _, _, _ => none
  | n + 1, L, v2, v3, v4, v5, v6, w => match L with
    | 0 => if ra_in v2 7 then if ra_in (w (b1 + 1) (ra_ix v2)) 2 then if ¬ (if 1 < (w (b0 + 1) (ra_ix (w (b1 + 1) (ra_ix v2)))) then (w (b0 + 1) (ra_ix (w (b1 + 1) (ra_ix v2)))) else 1) = 0 then fX0_isSoftTaken k b0 b1 n 1 0 (w (b1 + 1) (ra_ix v2)) (if 1 < (w (b0 + 1) (ra_ix (w (b1 + 1) (ra_ix v2)))) then (w (b0 + 1) (ra_ix (w (b1 + 1) (ra_ix v2)))) else 1) ((w (b0 + 3) (ra_ix v2)) - (w (b0 + 3) (ra_ix v2)) / (if 1 < (w (b0 + 1) (ra_ix (w (b1 + 1) (ra_ix v2)))) then (w (b0 + 1) (ra_ix (w (b1 + 1) (ra_ix v2)))) else 1) * (if 1 < (w (b0 + 1) (ra_ix (w (b1 + 1) (ra_ix v2)))) then (w (b0 + 1) (ra_ix (w (b1 + 1) (ra_ix v2)))) else 1)) 0 w else none else none else none
    | 1 => if (w b0 0) ≤ v6 then (some (0, w)) else (if ra_in v6 7 then if (w (b1 + 2) (ra_ix v6)) = 5 then (if (w (b1 + 1) (ra_ix v6)) = v3 then (if ¬ v4 = 0 then if ((w (b0 + 3) (ra_ix v6)) - (w (b0 + 3) (ra_ix v6)) / v4 * v4) = v5 then (some (1, w)) else (fX0_isSoftTaken k b0 b1 n 2 0 v3 v4 v5 v6 w) else none) else (fX0_isSoftTaken k b0 b1 n 2 0 v3 v4 v5 v6 w)) else (fX0_isSoftTaken k b0 b1 n 2 0 v3 v4 v5 v6 w) else none)
    | _ => fX0_isSoftTaken k b0 b1 n 1 0 v3 v4 v5 (v6 + 1) w
theorem fX0_isSoftTaken_0 (k : Nat) (b0 : Nat) (b1 : Nat) (n : Nat) (v2 : Int32) (v3 : Int32) (v4 : Int32) (v5 : Int32) (v6 : Int32) (w : ra_W) : fX0_isSoftTaken k b0 b1 (n + 1) 0 v2 v3 v4 v5 v6 w = (if ra_in v2 7 then if ra_in (w (b1 + 1) (ra_ix v2)) 2 then if ¬ (if 1 < (w (b0 + 1) (ra_ix (w (b1 + 1) (ra_ix v2)))) then (w (b0 + 1) (ra_ix (w (b1 + 1) (ra_ix v2)))) else 1) = 0 then fX0_isSoftTaken k b0 b1 n 1 0 (w (b1 + 1) (ra_ix v2)) (if 1 < (w (b0 + 1) (ra_ix (w (b1 + 1) (ra_ix v2)))) then (w (b0 + 1) (ra_ix (w (b1 + 1) (ra_ix v2)))) else 1) ((w (b0 + 3) (ra_ix v2)) - (w (b0 + 3) (ra_ix v2)) / (if 1 < (w (b0 + 1) (ra_ix (w (b1 + 1) (ra_ix v2)))) then (w (b0 + 1) (ra_ix (w (b1 + 1) (ra_ix v2)))) else 1) * (if 1 < (w (b0 + 1) (ra_ix (w (b1 + 1) (ra_ix v2)))) then (w (b0 + 1) (ra_ix (w (b1 + 1) (ra_ix v2)))) else 1)) 0 w else none else none else none) := rfl
theorem fX0_isSoftTaken_1 (k : Nat) (b0 : Nat) (b1 : Nat) (n : Nat) (v2 : Int32) (v3 : Int32) (v4 : Int32) (v5 : Int32) (v6 : Int32) (w : ra_W) : fX0_isSoftTaken k b0 b1 (n + 1) 1 v2 v3 v4 v5 v6 w = (if (w b0 0) ≤ v6 then (some (0, w)) else (if ra_in v6 7 then if (w (b1 + 2) (ra_ix v6)) = 5 then (if (w (b1 + 1) (ra_ix v6)) = v3 then (if ¬ v4 = 0 then if ((w (b0 + 3) (ra_ix v6)) - (w (b0 + 3) (ra_ix v6)) / v4 * v4) = v5 then (some (1, w)) else (fX0_isSoftTaken k b0 b1 n 2 0 v3 v4 v5 v6 w) else none) else (fX0_isSoftTaken k b0 b1 n 2 0 v3 v4 v5 v6 w)) else (fX0_isSoftTaken k b0 b1 n 2 0 v3 v4 v5 v6 w) else none)) := rfl
theorem fX0_isSoftTaken_2 (k : Nat) (b0 : Nat) (b1 : Nat) (n : Nat) (v2 : Int32) (v3 : Int32) (v4 : Int32) (v5 : Int32) (v6 : Int32) (w : ra_W) : fX0_isSoftTaken k b0 b1 (n + 1) 2 v2 v3 v4 v5 v6 w = (fX0_isSoftTaken k b0 b1 n 1 0 v3 v4 v5 (v6 + 1) w) := rfl
def FX0_isSoftTaken (k : Nat) (b0 : Nat) (b1 : Nat) (v2 : Int32) (w : ra_W) : Option (Int32 × ra_W) := fX0_isSoftTaken k b0 b1 k 0 v2 0 0 0 0 w
def pX0_isSoftTaken_0 (Z : ra_Z) (r : Int32) (w1 : ra_W) (k : Nat) (b0 : Nat) (b1 : Nat) (n : Nat) : Prop := ∀ (v2 : Int32) (v3 : Int32) (v4 : Int32) (v5 : Int32) (v6 : Int32) (w : ra_W), fX0_isSoftTaken k b0 b1 n 0 v2 v3 v4 v5 v6 w = some (r, w1) → ra_J Z 7 0 [(0, .ref ((zG Z).1 b0)), (1, .ref ((zG Z).1 b1)), (2, .int v2)] [] w
def pX0_isSoftTaken_1 (Z : ra_Z) (r : Int32) (w1 : ra_W) (k : Nat) (b0 : Nat) (b1 : Nat) (n : Nat) : Prop := ∀ (v2 : Int32) (v3 : Int32) (v4 : Int32) (v5 : Int32) (v6 : Int32) (w : ra_W), fX0_isSoftTaken k b0 b1 n 1 v2 v3 v4 v5 v6 w = some (r, w1) → ra_J Z 7 33 [(0, .ref ((zG Z).1 b0)), (1, .ref ((zG Z).1 b1)), (3, .int v3), (4, .int v4), (5, .int v5), (6, .int v6)] [] w
def pX0_isSoftTaken_2 (Z : ra_Z) (r : Int32) (w1 : ra_W) (k : Nat) (b0 : Nat) (b1 : Nat) (n : Nat) : Prop := ∀ (v2 : Int32) (v3 : Int32) (v4 : Int32) (v5 : Int32) (v6 : Int32) (w : ra_W), fX0_isSoftTaken k b0 b1 n 2 v2 v3 v4 v5 v6 w = some (r, w1) → ra_J Z 7 81 [(0, .ref ((zG Z).1 b0)), (1, .ref ((zG Z).1 b1)), (3, .int v3), (4, .int v4), (5, .int v5), (6, .int v6)] [] w
set_option maxHeartbeats 4000000 in
theorem tX0_isSoftTaken_0 {Z : ra_Z} {r : Int32} {w1 : ra_W} (C : ra_C Z cX0_isSoftTaken 7 RX0 1 30) (hQ : ra_QI Z r w1) (hr : (zmt Z).sig.returnType = (some .boolean)) (k : Nat) (b0 : Nat) (b1 : Nat) (h0 : ra_N b0) (h1 : ra_S b1) (n : Nat) (ih1 : pX0_isSoftTaken_1 Z r w1 k b0 b1 n) : pX0_isSoftTaken_0 Z r w1 k b0 b1 (n + 1) := by
  intro v2 v3 v4 v5 v6 w hf
  rw [fX0_isSoftTaken_0] at hf
  refine rg_aload_n (pc := 0) C 1 rfl rfl dX0_isSoftTaken_0 ?_
  refine rg_get (pc := 1) C b1 4 0 h1.1 (by decide) rfl inlX4 (by decide) wd_131 rfl dX0_isSoftTaken_1 ?_
  refine rg_iload_n (pc := 4) C 2 rfl rfl dX0_isSoftTaken_4 ?_
  obtain ⟨g1, hf⟩ := ra_gd hf
  refine rg_iald (pc := 5) (j := (ra_ix v2)) C (b1 + 1) h1.2.1 rfl g1 dX0_isSoftTaken_5 ?_
  refine rg_istore_n (pc := 6) (lv' := [(0, .ref ((zG Z).1 b0)), (1, .ref ((zG Z).1 b1)), (2, .int v2), (3, .int (w (b1 + 1) (ra_ix v2)))]) C [1, 2, 3, 0] rfl rfl (by decide) dX0_isSoftTaken_6 ?_
  refine rg_iconst (pc := 7) (v := 1) C dX0_isSoftTaken_7 (by decide) ?_
  refine rg_aload_n (pc := 8) C 0 rfl rfl dX0_isSoftTaken_8 ?_
  refine rg_get (pc := 9) C b0 2 3 h0.1 (by decide) rfl inlX2 (by decide) wd_79 rfl dX0_isSoftTaken_9 ?_
  refine rg_iload_n (pc := 12) C 3 rfl rfl dX0_isSoftTaken_12 ?_
  obtain ⟨g2, hf⟩ := ra_gd hf
  refine rg_iald (pc := 13) (j := (ra_ix (w (b1 + 1) (ra_ix v2)))) C (b0 + 1) h0.2.1 rfl g2 dX0_isSoftTaken_13 ?_
  refine rg_max (pc := 14) C wd_375 wd_376 wd_8 wd_377 (by decide) (Nat.le_of_ble_eq_true rfl) dX0_isSoftTaken_14 ?_
  refine rg_istore (pc := 17) (lv' := [(0, .ref ((zG Z).1 b0)), (1, .ref ((zG Z).1 b1)), (2, .int v2), (3, .int (w (b1 + 1) (ra_ix v2))), (4, .int (if 1 < (w (b0 + 1) (ra_ix (w (b1 + 1) (ra_ix v2)))) then (w (b0 + 1) (ra_ix (w (b1 + 1) (ra_ix v2)))) else 1))]) C [1, 2, 3, 4, 0] rfl (by decide) dX0_isSoftTaken_17 ?_
  refine rg_aload_n (pc := 19) C 0 rfl rfl dX0_isSoftTaken_19 ?_
  refine rg_get (pc := 20) C b0 2 5 h0.1 (by decide) rfl inlX2 (by decide) wd_87 rfl dX0_isSoftTaken_20 ?_
  refine rg_iload_n (pc := 23) C 2 rfl rfl dX0_isSoftTaken_23 ?_
  refine rg_iald (pc := 24) (j := (ra_ix v2)) C (b0 + 3) h0.2.2.2.1 rfl g1 dX0_isSoftTaken_24 ?_
  refine rg_iload (pc := 25) C 4 rfl dX0_isSoftTaken_25 ?_
  obtain ⟨g3, hf⟩ := ra_gd hf
  refine rg_irem (pc := 27) C g3 dX0_isSoftTaken_27 ?_
  refine rg_istore (pc := 28) (lv' := [(0, .ref ((zG Z).1 b0)), (1, .ref ((zG Z).1 b1)), (2, .int v2), (3, .int (w (b1 + 1) (ra_ix v2))), (4, .int (if 1 < (w (b0 + 1) (ra_ix (w (b1 + 1) (ra_ix v2)))) then (w (b0 + 1) (ra_ix (w (b1 + 1) (ra_ix v2)))) else 1)), (5, .int ((w (b0 + 3) (ra_ix v2)) - (w (b0 + 3) (ra_ix v2)) / (if 1 < (w (b0 + 1) (ra_ix (w (b1 + 1) (ra_ix v2)))) then (w (b0 + 1) (ra_ix (w (b1 + 1) (ra_ix v2)))) else 1) * (if 1 < (w (b0 + 1) (ra_ix (w (b1 + 1) (ra_ix v2)))) then (w (b0 + 1) (ra_ix (w (b1 + 1) (ra_ix v2)))) else 1)))]) C [1, 2, 3, 4, 5, 0] rfl (by decide) dX0_isSoftTaken_28 ?_
  refine rg_iconst (pc := 30) (v := 0) C dX0_isSoftTaken_30 (by decide) ?_
  refine rg_istore (pc := 31) (lv' := [(0, .ref ((zG Z).1 b0)), (1, .ref ((zG Z).1 b1)), (2, .int v2), (3, .int (w (b1 + 1) (ra_ix v2))), (4, .int (if 1 < (w (b0 + 1) (ra_ix (w (b1 + 1) (ra_ix v2)))) then (w (b0 + 1) (ra_ix (w (b1 + 1) (ra_ix v2)))) else 1)), (5, .int ((w (b0 + 3) (ra_ix v2)) - (w (b0 + 3) (ra_ix v2)) / (if 1 < (w (b0 + 1) (ra_ix (w (b1 + 1) (ra_ix v2)))) then (w (b0 + 1) (ra_ix (w (b1 + 1) (ra_ix v2)))) else 1) * (if 1 < (w (b0 + 1) (ra_ix (w (b1 + 1) (ra_ix v2)))) then (w (b0 + 1) (ra_ix (w (b1 + 1) (ra_ix v2)))) else 1))), (6, .int 0)]) C [1, 2, 3, 4, 5, 6, 0] rfl (by decide) dX0_isSoftTaken_31 ?_
  refine rg_sub [0, 1, 3, 4, 5, 6] rfl ?_
  exact ih1 _ _ _ _ _ _ hf
set_option maxHeartbeats 4000000 in
theorem tX0_isSoftTaken_1 {Z : ra_Z} {r : Int32} {w1 : ra_W} (C : ra_C Z cX0_isSoftTaken 7 RX0 1 30) (hQ : ra_QI Z r w1) (hr : (zmt Z).sig.returnType = (some .boolean)) (k : Nat) (b0 : Nat) (b1 : Nat) (h0 : ra_N b0) (h1 : ra_S b1) (n : Nat) (ih2 : pX0_isSoftTaken_2 Z r w1 k b0 b1 n) : pX0_isSoftTaken_1 Z r w1 k b0 b1 (n + 1) := by
  intro v2 v3 v4 v5 v6 w hf
  rw [fX0_isSoftTaken_1] at hf
  refine rg_iload (pc := 33) C 5 rfl dX0_isSoftTaken_33 ?_
  refine rg_aload_n (pc := 35) C 0 rfl rfl dX0_isSoftTaken_35 ?_
  refine rg_get (pc := 36) C b0 2 0 h0.1 (by decide) rfl inlX2 (by decide) wd_66 rfl dX0_isSoftTaken_36 ?_
  refine rg_icmp_ge (pc := 39) (tgt := 87) C dX0_isSoftTaken_39 (by decide) (fun c1 => ?_) (fun c1 => ?_)
  · replace hf := ra_t hf c1
    refine rg_iconst (pc := 87) (v := 0) C dX0_isSoftTaken_87 (by decide) ?_
    exact rg_zret (pc := 88) C hQ hr (by decide) hf dX0_isSoftTaken_88
  · replace hf := ra_f hf c1
    refine rg_aload_n (pc := 42) C 1 rfl rfl dX0_isSoftTaken_42 ?_
    refine rg_get (pc := 43) C b1 4 1 h1.1 (by decide) rfl inlX4 (by decide) wd_134 rfl dX0_isSoftTaken_43 ?_
    refine rg_iload (pc := 46) C 5 rfl dX0_isSoftTaken_46 ?_
    obtain ⟨g2, hf⟩ := ra_gd hf
    refine rg_iald (pc := 48) (j := (ra_ix v6)) C (b1 + 2) h1.2.2.1 rfl g2 dX0_isSoftTaken_48 ?_
    refine rg_iconst (pc := 49) (v := 5) C dX0_isSoftTaken_49 (by decide) ?_
    refine rg_icmp_ne (pc := 50) (tgt := 81) C dX0_isSoftTaken_50 (by decide) (fun c3 => ?_) (fun c3 => ?_)
    · replace hf := ra_f hf c3
      exact ih2 _ _ _ _ _ _ hf
    · replace hf := ra_t hf c3
      refine rg_aload_n (pc := 53) C 1 rfl rfl dX0_isSoftTaken_53 ?_
      refine rg_get (pc := 54) C b1 4 0 h1.1 (by decide) rfl inlX4 (by decide) wd_131 rfl dX0_isSoftTaken_54 ?_
      refine rg_iload (pc := 57) C 5 rfl dX0_isSoftTaken_57 ?_
      refine rg_iald (pc := 59) (j := (ra_ix v6)) C (b1 + 1) h1.2.1 rfl g2 dX0_isSoftTaken_59 ?_
      refine rg_iload_n (pc := 60) C 2 rfl rfl dX0_isSoftTaken_60 ?_
      refine rg_icmp_ne (pc := 61) (tgt := 81) C dX0_isSoftTaken_61 (by decide) (fun c4 => ?_) (fun c4 => ?_)
      · replace hf := ra_f hf c4
        exact ih2 _ _ _ _ _ _ hf
      · replace hf := ra_t hf c4
        refine rg_aload_n (pc := 64) C 0 rfl rfl dX0_isSoftTaken_64 ?_
        refine rg_get (pc := 65) C b0 2 5 h0.1 (by decide) rfl inlX2 (by decide) wd_87 rfl dX0_isSoftTaken_65 ?_
        refine rg_iload (pc := 68) C 5 rfl dX0_isSoftTaken_68 ?_
        refine rg_iald (pc := 70) (j := (ra_ix v6)) C (b0 + 3) h0.2.2.2.1 rfl g2 dX0_isSoftTaken_70 ?_
        refine rg_iload (pc := 71) C 3 rfl dX0_isSoftTaken_71 ?_
        obtain ⟨g5, hf⟩ := ra_gd hf
        refine rg_irem (pc := 73) C g5 dX0_isSoftTaken_73 ?_
        refine rg_iload (pc := 74) C 4 rfl dX0_isSoftTaken_74 ?_
        refine rg_icmp_ne (pc := 76) (tgt := 81) C dX0_isSoftTaken_76 (by decide) (fun c6 => ?_) (fun c6 => ?_)
        · replace hf := ra_f hf c6
          exact ih2 _ _ _ _ _ _ hf
        · replace hf := ra_t hf c6
          refine rg_iconst (pc := 79) (v := 1) C dX0_isSoftTaken_79 (by decide) ?_
          exact rg_zret (pc := 80) C hQ hr (by decide) hf dX0_isSoftTaken_80
set_option maxHeartbeats 4000000 in
theorem tX0_isSoftTaken_2 {Z : ra_Z} {r : Int32} {w1 : ra_W} (C : ra_C Z cX0_isSoftTaken 7 RX0 1 30) (hQ : ra_QI Z r w1) (hr : (zmt Z).sig.returnType = (some .boolean)) (k : Nat) (b0 : Nat) (b1 : Nat) (h0 : ra_N b0) (h1 : ra_S b1) (n : Nat) (ih1 : pX0_isSoftTaken_1 Z r w1 k b0 b1 n) : pX0_isSoftTaken_2 Z r w1 k b0 b1 (n + 1) := by
  intro v2 v3 v4 v5 v6 w hf
  rw [fX0_isSoftTaken_2] at hf
  refine rg_iinc (pc := 81) (v := (v6 + 1)) (lv' := [(0, .ref ((zG Z).1 b0)), (1, .ref ((zG Z).1 b1)), (3, .int v3), (4, .int v4), (5, .int v5), (6, .int (v6 + 1))]) C 5 rfl [1, 2, 3, 4, 5, 0] (ra_ii (by decide)) rfl (by decide) dX0_isSoftTaken_81 ?_
  refine rg_goto (pc := 84) (tgt := 33) C dX0_isSoftTaken_84 (by decide) ?_
  exact ih1 _ _ _ _ _ _ hf
theorem tX0_isSoftTaken {Z : ra_Z} {r : Int32} {w1 : ra_W} (C : ra_C Z cX0_isSoftTaken 7 RX0 1 30) (hQ : ra_QI Z r w1) (hr : (zmt Z).sig.returnType = (some .boolean)) (k : Nat) (b0 : Nat) (b1 : Nat) (h0 : ra_N b0) (h1 : ra_S b1) : ∀ n : Nat, pX0_isSoftTaken_0 Z r w1 k b0 b1 n ∧ pX0_isSoftTaken_1 Z r w1 k b0 b1 n ∧ pX0_isSoftTaken_2 Z r w1 k b0 b1 n := by
  intro n
  induction n with
  | zero => exact ⟨(fun _ _ _ _ _ _ h => by cases h), (fun _ _ _ _ _ _ h => by cases h), (fun _ _ _ _ _ _ h => by cases h)⟩
  | succ n ih =>
    obtain ⟨ih0, ih1, ih2⟩ := ih
    exact ⟨tX0_isSoftTaken_0 C hQ hr k b0 b1 h0 h1 n ih1, tX0_isSoftTaken_1 C hQ hr k b0 b1 h0 h1 n ih2, tX0_isSoftTaken_2 C hQ hr k b0 b1 h0 h1 n ih1⟩
theorem kX0_isSoftTaken (l : Launch) (G : ra_G) (hj : ra_inj G) (k : Nat) (b0 : Nat) (b1 : Nat) (h0 : ra_N b0) (h1 : ra_S b1) (v2 : Int32) (w : ra_W) (r : Int32) (w1 : ra_W) (h : FX0_isSoftTaken k b0 b1 v2 w = some (r, w1)) : ra_MI l G yX0_isSoftTaken cX0_isSoftTaken 7 (some .boolean) 1 30 [.ref (G.1 b0), .ref (G.1 b1), .int v2] w r w1 :=
  ra_entryI (own := RX0) (by decide) rfl (Nat.le_of_ble_eq_true rfl) hj (fun Z hl hG C hQ hr => by subst hl; subst hG; exact (tX0_isSoftTaken C hQ hr k b0 b1 h0 h1 k).1 _ _ _ _ _ _ h)
theorem ysX0_isSoftTaken : ra_YS yX0_isSoftTaken cX0_isSoftTaken 7 (some .boolean) 3 := ⟨⟨wd_4, wd_374, by decide, by decide, by decide⟩, wd_373⟩
/-- TrunkRadio$Air.helpThemselves -/
def fX0_helpThemselves (k : Nat) (b0 : Nat) (b1 : Nat) : Nat → Nat → Int32 → Int32 → ra_W → Option (Int32 × ra_W)
  | 0, _, _, _, _ => none
  | n + 1, L, v2, v3, w => match L with
    | 0 => if ra_in v2 2 then if 2 ≤ (w (b1 + 6) (ra_ix v2)) then (fX0_helpThemselves k b0 b1 n 1 v2 0 w) else (some (0, w)) else none
    | 1 => if (w b0 0) ≤ v3 then (some (0, w)) else (ra_bind (FX0_isSentAt k b1 v2 v3 w) (fun r2 w3 => if r2 = 0 then (fX0_helpThemselves k b0 b1 n 2 v2 v3 w3) else (ra_bind (FX0_isSoftTaken k b0 b1 v3 w3) (fun r6 w7 => if r6 = 0 then (ra_bind (FX4_enter k b1 v3 5 w7) (fun _ w11 => fX0_helpThemselves k b0 b1 n 2 v2 v3 (ra_st w11 b1 7 ((w11 b1 7) + 1)))) else (fX0_helpThemselves k b0 b1 n 2 v2 v3 w7)))))
    | _ => fX0_helpThemselves k b0 b1 n 1 v2 (v3 + 1) w
theorem fX0_helpThemselves_0 (k : Nat) (b0 : Nat) (b1 : Nat) (n : Nat) (v2 : Int32) (v3 : Int32) (w : ra_W) : fX0_helpThemselves k b0 b1 (n + 1) 0 v2 v3 w = (if ra_in v2 2 then if 2 ≤ (w (b1 + 6) (ra_ix v2)) then (fX0_helpThemselves k b0 b1 n 1 v2 0 w) else (some (0, w)) else none) := rfl
theorem fX0_helpThemselves_1 (k : Nat) (b0 : Nat) (b1 : Nat) (n : Nat) (v2 : Int32) (v3 : Int32) (w : ra_W) : fX0_helpThemselves k b0 b1 (n + 1) 1 v2 v3 w = (if (w b0 0) ≤ v3 then (some (0, w)) else (ra_bind (FX0_isSentAt k b1 v2 v3 w) (fun r2 w3 => if r2 = 0 then (fX0_helpThemselves k b0 b1 n 2 v2 v3 w3) else (ra_bind (FX0_isSoftTaken k b0 b1 v3 w3) (fun r6 w7 => if r6 = 0 then (ra_bind (FX4_enter k b1 v3 5 w7) (fun _ w11 => fX0_helpThemselves k b0 b1 n 2 v2 v3 (ra_st w11 b1 7 ((w11 b1 7) + 1)))) else (fX0_helpThemselves k b0 b1 n 2 v2 v3 w7)))))) := rfl
theorem fX0_helpThemselves_2 (k : Nat) (b0 : Nat) (b1 : Nat) (n : Nat) (v2 : Int32) (v3 : Int32) (w : ra_W) : fX0_helpThemselves k b0 b1 (n + 1) 2 v2 v3 w = (fX0_helpThemselves k b0 b1 n 1 v2 (v3 + 1) w) := rfl
def FX0_helpThemselves (k : Nat) (b0 : Nat) (b1 : Nat) (v2 : Int32) (w : ra_W) : Option (Int32 × ra_W) := fX0_helpThemselves k b0 b1 k 0 v2 0 w
def pX0_helpThemselves_0 (Z : ra_Z) (r : Int32) (w1 : ra_W) (k : Nat) (b0 : Nat) (b1 : Nat) (n : Nat) : Prop := ∀ (v2 : Int32) (v3 : Int32) (w : ra_W), fX0_helpThemselves k b0 b1 n 0 v2 v3 w = some (r, w1) → ra_J Z 4 0 [(0, .ref ((zG Z).1 b0)), (1, .ref ((zG Z).1 b1)), (2, .int v2)] [] w
def pX0_helpThemselves_1 (Z : ra_Z) (r : Int32) (w1 : ra_W) (k : Nat) (b0 : Nat) (b1 : Nat) (n : Nat) : Prop := ∀ (v2 : Int32) (v3 : Int32) (w : ra_W), fX0_helpThemselves k b0 b1 n 1 v2 v3 w = some (r, w1) → ra_J Z 4 13 [(0, .ref ((zG Z).1 b0)), (1, .ref ((zG Z).1 b1)), (2, .int v2), (3, .int v3)] [] w
def pX0_helpThemselves_2 (Z : ra_Z) (r : Int32) (w1 : ra_W) (k : Nat) (b0 : Nat) (b1 : Nat) (n : Nat) : Prop := ∀ (v2 : Int32) (v3 : Int32) (w : ra_W), fX0_helpThemselves k b0 b1 n 2 v2 v3 w = some (r, w1) → ra_J Z 4 55 [(0, .ref ((zG Z).1 b0)), (1, .ref ((zG Z).1 b1)), (2, .int v2), (3, .int v3)] [] w
set_option maxHeartbeats 4000000 in
theorem tX0_helpThemselves_0 {Z : ra_Z} {r : Int32} {w1 : ra_W} (C : ra_C Z cX0_helpThemselves 4 RX0 2 56) (hQ : ra_QV Z r w1) (hr : (zmt Z).sig.returnType = none) (k : Nat) (b0 : Nat) (b1 : Nat) (h0 : ra_N b0) (h1 : ra_S b1) (n : Nat) (ih1 : pX0_helpThemselves_1 Z r w1 k b0 b1 n) : pX0_helpThemselves_0 Z r w1 k b0 b1 (n + 1) := by
  intro v2 v3 w hf
  rw [fX0_helpThemselves_0] at hf
  refine rg_aload_n (pc := 0) C 1 rfl rfl dX0_helpThemselves_0 ?_
  refine rg_get (pc := 1) C b1 4 5 h1.1 (by decide) rfl inlX4 (by decide) wd_146 rfl dX0_helpThemselves_1 ?_
  refine rg_iload_n (pc := 4) C 2 rfl rfl dX0_helpThemselves_4 ?_
  obtain ⟨g1, hf⟩ := ra_gd hf
  refine rg_iald (pc := 5) (j := (ra_ix v2)) C (b1 + 6) h1.2.2.2.2.2.2 rfl g1 dX0_helpThemselves_5 ?_
  refine rg_iconst (pc := 6) (v := 2) C dX0_helpThemselves_6 (by decide) ?_
  refine rg_icmp_ge (pc := 7) (tgt := 11) C dX0_helpThemselves_7 (by decide) (fun c2 => ?_) (fun c2 => ?_)
  · replace hf := ra_t hf c2
    refine rg_iconst (pc := 11) (v := 0) C dX0_helpThemselves_11 (by decide) ?_
    refine rg_istore_n (pc := 12) (lv' := [(0, .ref ((zG Z).1 b0)), (1, .ref ((zG Z).1 b1)), (2, .int v2), (3, .int 0)]) C [1, 2, 3, 0] rfl rfl (by decide) dX0_helpThemselves_12 ?_
    exact ih1 _ _ _ hf
  · replace hf := ra_f hf c2
    exact rg_vret (pc := 10) C hQ hr hf dX0_helpThemselves_10
set_option maxHeartbeats 4000000 in
theorem tX0_helpThemselves_1 {Z : ra_Z} {r : Int32} {w1 : ra_W} (C : ra_C Z cX0_helpThemselves 4 RX0 2 56) (hQ : ra_QV Z r w1) (hr : (zmt Z).sig.returnType = none) (k : Nat) (b0 : Nat) (b1 : Nat) (h0 : ra_N b0) (h1 : ra_S b1) (n : Nat) (ih2 : pX0_helpThemselves_2 Z r w1 k b0 b1 n) : pX0_helpThemselves_1 Z r w1 k b0 b1 (n + 1) := by
  intro v2 v3 w hf
  rw [fX0_helpThemselves_1] at hf
  refine rg_iload_n (pc := 13) C 3 rfl rfl dX0_helpThemselves_13 ?_
  refine rg_aload_n (pc := 14) C 0 rfl rfl dX0_helpThemselves_14 ?_
  refine rg_get (pc := 15) C b0 2 0 h0.1 (by decide) rfl inlX2 (by decide) wd_66 rfl dX0_helpThemselves_15 ?_
  refine rg_icmp_ge (pc := 18) (tgt := 61) C dX0_helpThemselves_18 (by decide) (fun c1 => ?_) (fun c1 => ?_)
  · replace hf := ra_t hf c1
    exact rg_vret (pc := 61) C hQ hr hf dX0_helpThemselves_61
  · replace hf := ra_f hf c1
    refine rg_aload_n (pc := 21) C 1 rfl rfl dX0_helpThemselves_21 ?_
    refine rg_iload_n (pc := 22) C 2 rfl rfl dX0_helpThemselves_22 ?_
    refine rg_iload_n (pc := 23) C 3 rfl rfl dX0_helpThemselves_23 ?_
    obtain ⟨r2, w3, e4, hf⟩ := ra_bd hf
    refine rg_callSI (pc := 24) (As := [.ref ((zG Z).1 b1), .int v2, .int v3]) (st := []) C (kX0_isSentAt (zl Z) (zG Z) C.hj k b1 h1 _ _ _ _ _ e4) ysX0_isSentAt rfl wd_364 ⟨Nat.le_of_ble_eq_true rfl, Nat.le_of_ble_eq_true rfl⟩ rfl (Nat.le_of_ble_eq_true rfl) dX0_helpThemselves_24 ?_
    refine rg_if_eq (pc := 27) (tgt := 55) C dX0_helpThemselves_27 (by decide) (fun c5 => ?_) (fun c5 => ?_)
    · replace hf := ra_t hf c5
      exact ih2 _ _ _ hf
    · replace hf := ra_f hf c5
      refine rg_aload_n (pc := 30) C 0 rfl rfl dX0_helpThemselves_30 ?_
      refine rg_aload_n (pc := 31) C 1 rfl rfl dX0_helpThemselves_31 ?_
      refine rg_iload_n (pc := 32) C 3 rfl rfl dX0_helpThemselves_32 ?_
      obtain ⟨r6, w7, e8, hf⟩ := ra_bd hf
      refine rg_callSI (pc := 33) (As := [.ref ((zG Z).1 b0), .ref ((zG Z).1 b1), .int v3]) (st := []) C (kX0_isSoftTaken (zl Z) (zG Z) C.hj k b0 b1 h0 h1 _ _ _ _ e8) ysX0_isSoftTaken rfl wd_372 ⟨Nat.le_of_ble_eq_true rfl, Nat.le_of_ble_eq_true rfl⟩ rfl (Nat.le_of_ble_eq_true rfl) dX0_helpThemselves_33 ?_
      refine rg_if_ne (pc := 36) (tgt := 55) C dX0_helpThemselves_36 (by decide) (fun c9 => ?_) (fun c9 => ?_)
      · replace hf := ra_f hf c9
        exact ih2 _ _ _ hf
      · replace hf := ra_t hf c9
        refine rg_aload_n (pc := 39) C 1 rfl rfl dX0_helpThemselves_39 ?_
        refine rg_iload_n (pc := 40) C 3 rfl rfl dX0_helpThemselves_40 ?_
        refine rg_iconst (pc := 41) (v := 5) C dX0_helpThemselves_41 (by decide) ?_
        obtain ⟨r10, w11, e12, hf⟩ := ra_bd hf
        refine rg_callVV (pc := 42) (As := [.int v3, .int 5]) (st := []) C (kX4_enter (zl Z) (zG Z) C.hj k b1 h1 _ _ _ _ _ e12) h1.1 (by decide) rfl ysX4_enter rfl wd_367 ⟨Nat.le_of_ble_eq_true rfl, Nat.le_of_ble_eq_true rfl⟩ rfl (Nat.le_of_ble_eq_true rfl) dX0_helpThemselves_42 ?_
        refine rg_aload_n (pc := 45) C 1 rfl rfl dX0_helpThemselves_45 ?_
        refine rg_dup (pc := 46) C rfl dX0_helpThemselves_46 ?_
        refine rg_get (pc := 47) C b1 4 7 h1.1 (by decide) rfl inlX4 (by decide) wd_152 rfl dX0_helpThemselves_47 ?_
        refine rg_iconst (pc := 50) (v := 1) C dX0_helpThemselves_50 (by decide) ?_
        refine rg_iadd (pc := 51) C dX0_helpThemselves_51 ?_
        refine rg_put (pc := 52) C b1 4 7 h1.1 (by decide) rfl inlX4 tyX4 tyX4_ok nmX4 (by decide) wd_152 rfl rfl rfl (Nat.le_of_ble_eq_true rfl) rfl dX0_helpThemselves_52 ?_
        exact ih2 _ _ _ hf
set_option maxHeartbeats 4000000 in
theorem tX0_helpThemselves_2 {Z : ra_Z} {r : Int32} {w1 : ra_W} (C : ra_C Z cX0_helpThemselves 4 RX0 2 56) (hQ : ra_QV Z r w1) (hr : (zmt Z).sig.returnType = none) (k : Nat) (b0 : Nat) (b1 : Nat) (h0 : ra_N b0) (h1 : ra_S b1) (n : Nat) (ih1 : pX0_helpThemselves_1 Z r w1 k b0 b1 n) : pX0_helpThemselves_2 Z r w1 k b0 b1 (n + 1) := by
  intro v2 v3 w hf
  rw [fX0_helpThemselves_2] at hf
  refine rg_iinc (pc := 55) (v := (v3 + 1)) (lv' := [(0, .ref ((zG Z).1 b0)), (1, .ref ((zG Z).1 b1)), (2, .int v2), (3, .int (v3 + 1))]) C 3 rfl [1, 2, 3, 0] (ra_ii (by decide)) rfl (by decide) dX0_helpThemselves_55 ?_
  refine rg_goto (pc := 58) (tgt := 13) C dX0_helpThemselves_58 (by decide) ?_
  exact ih1 _ _ _ hf
theorem tX0_helpThemselves {Z : ra_Z} {r : Int32} {w1 : ra_W} (C : ra_C Z cX0_helpThemselves 4 RX0 2 56) (hQ : ra_QV Z r w1) (hr : (zmt Z).sig.returnType = none) (k : Nat) (b0 : Nat) (b1 : Nat) (h0 : ra_N b0) (h1 : ra_S b1) : ∀ n : Nat, pX0_helpThemselves_0 Z r w1 k b0 b1 n ∧ pX0_helpThemselves_1 Z r w1 k b0 b1 n ∧ pX0_helpThemselves_2 Z r w1 k b0 b1 n := by
  intro n
  induction n with
  | zero => exact ⟨(fun _ _ _ h => by cases h), (fun _ _ _ h => by cases h), (fun _ _ _ h => by cases h)⟩
  | succ n ih =>
    obtain ⟨ih0, ih1, ih2⟩ := ih
    exact ⟨tX0_helpThemselves_0 C hQ hr k b0 b1 h0 h1 n ih1, tX0_helpThemselves_1 C hQ hr k b0 b1 h0 h1 n ih2, tX0_helpThemselves_2 C hQ hr k b0 b1 h0 h1 n ih1⟩
theorem kX0_helpThemselves (l : Launch) (G : ra_G) (hj : ra_inj G) (k : Nat) (b0 : Nat) (b1 : Nat) (h0 : ra_N b0) (h1 : ra_S b1) (v2 : Int32) (w : ra_W) (r : Int32) (w1 : ra_W) (h : FX0_helpThemselves k b0 b1 v2 w = some (r, w1)) : ra_MV l G yX0_helpThemselves cX0_helpThemselves 4 none 2 56 [.ref (G.1 b0), .ref (G.1 b1), .int v2] w r w1 :=
  ra_entryV (own := RX0) (by decide) rfl (Nat.le_of_ble_eq_true rfl) hj (fun Z hl hG C hQ hr => by subst hl; subst hG; exact (tX0_helpThemselves C hQ hr k b0 b1 h0 h1 k).1 _ _ _ h)
theorem ysX0_helpThemselves : ra_YS yX0_helpThemselves cX0_helpThemselves 4 none 3 := ⟨⟨wd_4, wd_371, by decide, by decide, by decide⟩, wd_370⟩
/-- TrunkRadio$Air.tryAgain -/
def fX0_tryAgain (k : Nat) (b1 : Nat) (b2 : Nat) : Nat → Nat → Int32 → ra_W → Option (Int32 × ra_W)
  | 0, _, _, _ => none
  | n + 1, L, v3, w => match L with
    | 0 => fX0_tryAgain k b1 b2 n 1 0 w
    | 1 => if (w b1 0) ≤ v3 then (some (0, w)) else (if ra_in v3 7 then if (w 15 (ra_ix v3)) = 2 then (if 1 ≤ ((ra_st w (b2 + 3) (ra_ix v3) ((w (b2 + 3) (ra_ix v3)) - 1)) (b2 + 3) (ra_ix v3)) then (fX0_tryAgain k b1 b2 n 2 v3 (ra_st w (b2 + 3) (ra_ix v3) ((w (b2 + 3) (ra_ix v3)) - 1))) else (ra_bind (FX4_enter k b2 v3 1 (ra_st w (b2 + 3) (ra_ix v3) ((w (b2 + 3) (ra_ix v3)) - 1))) (fun _ w6 => fX0_tryAgain k b1 b2 n 2 v3 w6))) else (fX0_tryAgain k b1 b2 n 2 v3 w) else none)
    | _ => fX0_tryAgain k b1 b2 n 1 (v3 + 1) w
theorem fX0_tryAgain_0 (k : Nat) (b1 : Nat) (b2 : Nat) (n : Nat) (v3 : Int32) (w : ra_W) : fX0_tryAgain k b1 b2 (n + 1) 0 v3 w = (fX0_tryAgain k b1 b2 n 1 0 w) := rfl
theorem fX0_tryAgain_1 (k : Nat) (b1 : Nat) (b2 : Nat) (n : Nat) (v3 : Int32) (w : ra_W) : fX0_tryAgain k b1 b2 (n + 1) 1 v3 w = (if (w b1 0) ≤ v3 then (some (0, w)) else (if ra_in v3 7 then if (w 15 (ra_ix v3)) = 2 then (if 1 ≤ ((ra_st w (b2 + 3) (ra_ix v3) ((w (b2 + 3) (ra_ix v3)) - 1)) (b2 + 3) (ra_ix v3)) then (fX0_tryAgain k b1 b2 n 2 v3 (ra_st w (b2 + 3) (ra_ix v3) ((w (b2 + 3) (ra_ix v3)) - 1))) else (ra_bind (FX4_enter k b2 v3 1 (ra_st w (b2 + 3) (ra_ix v3) ((w (b2 + 3) (ra_ix v3)) - 1))) (fun _ w6 => fX0_tryAgain k b1 b2 n 2 v3 w6))) else (fX0_tryAgain k b1 b2 n 2 v3 w) else none)) := rfl
theorem fX0_tryAgain_2 (k : Nat) (b1 : Nat) (b2 : Nat) (n : Nat) (v3 : Int32) (w : ra_W) : fX0_tryAgain k b1 b2 (n + 1) 2 v3 w = (fX0_tryAgain k b1 b2 n 1 (v3 + 1) w) := rfl
def FX0_tryAgain (k : Nat) (b1 : Nat) (b2 : Nat)  (w : ra_W) : Option (Int32 × ra_W) := fX0_tryAgain k b1 b2 k 0 0 w
def pX0_tryAgain_0 (Z : ra_Z) (r : Int32) (w1 : ra_W) (k : Nat) (b1 : Nat) (b2 : Nat) (n : Nat) : Prop := ∀ (v3 : Int32) (w : ra_W), fX0_tryAgain k b1 b2 n 0 v3 w = some (r, w1) → ra_J Z 4 0 [(0, .ref ((zG Z).1 13)), (1, .ref ((zG Z).1 b1)), (2, .ref ((zG Z).1 b2))] [] w
def pX0_tryAgain_1 (Z : ra_Z) (r : Int32) (w1 : ra_W) (k : Nat) (b1 : Nat) (b2 : Nat) (n : Nat) : Prop := ∀ (v3 : Int32) (w : ra_W), fX0_tryAgain k b1 b2 n 1 v3 w = some (r, w1) → ra_J Z 4 2 [(0, .ref ((zG Z).1 13)), (1, .ref ((zG Z).1 b1)), (2, .ref ((zG Z).1 b2)), (3, .int v3)] [] w
def pX0_tryAgain_2 (Z : ra_Z) (r : Int32) (w1 : ra_W) (k : Nat) (b1 : Nat) (b2 : Nat) (n : Nat) : Prop := ∀ (v3 : Int32) (w : ra_W), fX0_tryAgain k b1 b2 n 2 v3 w = some (r, w1) → ra_J Z 4 46 [(0, .ref ((zG Z).1 13)), (1, .ref ((zG Z).1 b1)), (2, .ref ((zG Z).1 b2)), (3, .int v3)] [] w
set_option maxHeartbeats 4000000 in
theorem tX0_tryAgain_0 {Z : ra_Z} {r : Int32} {w1 : ra_W} (C : ra_C Z cX0_tryAgain 4 RX0 1 22) (hQ : ra_QV Z r w1) (hr : (zmt Z).sig.returnType = none) (k : Nat) (b1 : Nat) (b2 : Nat) (h1 : ra_N b1) (h2 : ra_S b2) (n : Nat) (ih1 : pX0_tryAgain_1 Z r w1 k b1 b2 n) : pX0_tryAgain_0 Z r w1 k b1 b2 (n + 1) := by
  intro v3 w hf
  rw [fX0_tryAgain_0] at hf
  refine rg_iconst (pc := 0) (v := 0) C dX0_tryAgain_0 (by decide) ?_
  refine rg_istore_n (pc := 1) (lv' := [(0, .ref ((zG Z).1 13)), (1, .ref ((zG Z).1 b1)), (2, .ref ((zG Z).1 b2)), (3, .int 0)]) C [1, 2, 3, 0] rfl rfl (by decide) dX0_tryAgain_1 ?_
  exact ih1 _ _ hf
set_option maxHeartbeats 4000000 in
theorem tX0_tryAgain_1 {Z : ra_Z} {r : Int32} {w1 : ra_W} (C : ra_C Z cX0_tryAgain 4 RX0 1 22) (hQ : ra_QV Z r w1) (hr : (zmt Z).sig.returnType = none) (k : Nat) (b1 : Nat) (b2 : Nat) (h1 : ra_N b1) (h2 : ra_S b2) (n : Nat) (ih2 : pX0_tryAgain_2 Z r w1 k b1 b2 n) : pX0_tryAgain_1 Z r w1 k b1 b2 (n + 1) := by
  intro v3 w hf
  rw [fX0_tryAgain_1] at hf
  refine rg_iload_n (pc := 2) C 3 rfl rfl dX0_tryAgain_2 ?_
  refine rg_aload_n (pc := 3) C 1 rfl rfl dX0_tryAgain_3 ?_
  refine rg_get (pc := 4) C b1 2 0 h1.1 (by decide) rfl inlX2 (by decide) wd_66 rfl dX0_tryAgain_4 ?_
  refine rg_icmp_ge (pc := 7) (tgt := 52) C dX0_tryAgain_7 (by decide) (fun c1 => ?_) (fun c1 => ?_)
  · replace hf := ra_t hf c1
    exact rg_vret (pc := 52) C hQ hr hf dX0_tryAgain_52
  · replace hf := ra_f hf c1
    refine rg_aload_n (pc := 10) C 0 rfl rfl dX0_tryAgain_10 ?_
    refine rg_get (pc := 11) C 13 0 1 kd_13 (by decide) rfl inlX0 (by decide) wd_118 rfl dX0_tryAgain_11 ?_
    refine rg_iload_n (pc := 14) C 3 rfl rfl dX0_tryAgain_14 ?_
    obtain ⟨g2, hf⟩ := ra_gd hf
    refine rg_iald (pc := 15) (j := (ra_ix v3)) C 15 kd_15 rfl g2 dX0_tryAgain_15 ?_
    refine rg_iconst (pc := 16) (v := 2) C dX0_tryAgain_16 (by decide) ?_
    refine rg_icmp_ne (pc := 17) (tgt := 46) C dX0_tryAgain_17 (by decide) (fun c3 => ?_) (fun c3 => ?_)
    · replace hf := ra_f hf c3
      exact ih2 _ _ hf
    · replace hf := ra_t hf c3
      refine rg_aload_n (pc := 20) C 2 rfl rfl dX0_tryAgain_20 ?_
      refine rg_get (pc := 21) C b2 4 2 h2.1 (by decide) rfl inlX4 (by decide) wd_137 rfl dX0_tryAgain_21 ?_
      refine rg_iload_n (pc := 24) C 3 rfl rfl dX0_tryAgain_24 ?_
      refine rg_dup2 (pc := 25) C rfl rfl dX0_tryAgain_25 ?_
      refine rg_iald (pc := 26) (j := (ra_ix v3)) C (b2 + 3) h2.2.2.2.1 rfl g2 dX0_tryAgain_26 ?_
      refine rg_iconst (pc := 27) (v := 1) C dX0_tryAgain_27 (by decide) ?_
      refine rg_isub (pc := 28) C dX0_tryAgain_28 ?_
      refine rg_iast (pc := 29) (j := (ra_ix v3)) C (b2 + 3) h2.2.2.2.1 rfl g2 dX0_tryAgain_29 ?_
      refine rg_aload_n (pc := 30) C 2 rfl rfl dX0_tryAgain_30 ?_
      refine rg_get (pc := 31) C b2 4 2 h2.1 (by decide) rfl inlX4 (by decide) wd_137 rfl dX0_tryAgain_31 ?_
      refine rg_iload_n (pc := 34) C 3 rfl rfl dX0_tryAgain_34 ?_
      refine rg_iald (pc := 35) (j := (ra_ix v3)) C (b2 + 3) h2.2.2.2.1 rfl g2 dX0_tryAgain_35 ?_
      refine rg_iconst (pc := 36) (v := 1) C dX0_tryAgain_36 (by decide) ?_
      refine rg_icmp_ge (pc := 37) (tgt := 46) C dX0_tryAgain_37 (by decide) (fun c4 => ?_) (fun c4 => ?_)
      · replace hf := ra_t hf c4
        exact ih2 _ _ hf
      · replace hf := ra_f hf c4
        refine rg_aload_n (pc := 40) C 2 rfl rfl dX0_tryAgain_40 ?_
        refine rg_iload_n (pc := 41) C 3 rfl rfl dX0_tryAgain_41 ?_
        refine rg_iconst (pc := 42) (v := 1) C dX0_tryAgain_42 (by decide) ?_
        obtain ⟨r5, w6, e7, hf⟩ := ra_bd hf
        refine rg_callVV (pc := 43) (As := [.int v3, .int 1]) (st := []) C (kX4_enter (zl Z) (zG Z) C.hj k b2 h2 _ _ _ _ _ e7) h2.1 (by decide) rfl ysX4_enter rfl wd_367 ⟨Nat.le_of_ble_eq_true rfl, Nat.le_of_ble_eq_true rfl⟩ rfl (Nat.le_of_ble_eq_true rfl) dX0_tryAgain_43 ?_
        exact ih2 _ _ hf
set_option maxHeartbeats 4000000 in
theorem tX0_tryAgain_2 {Z : ra_Z} {r : Int32} {w1 : ra_W} (C : ra_C Z cX0_tryAgain 4 RX0 1 22) (hQ : ra_QV Z r w1) (hr : (zmt Z).sig.returnType = none) (k : Nat) (b1 : Nat) (b2 : Nat) (h1 : ra_N b1) (h2 : ra_S b2) (n : Nat) (ih1 : pX0_tryAgain_1 Z r w1 k b1 b2 n) : pX0_tryAgain_2 Z r w1 k b1 b2 (n + 1) := by
  intro v3 w hf
  rw [fX0_tryAgain_2] at hf
  refine rg_iinc (pc := 46) (v := (v3 + 1)) (lv' := [(0, .ref ((zG Z).1 13)), (1, .ref ((zG Z).1 b1)), (2, .ref ((zG Z).1 b2)), (3, .int (v3 + 1))]) C 3 rfl [1, 2, 3, 0] (ra_ii (by decide)) rfl (by decide) dX0_tryAgain_46 ?_
  refine rg_goto (pc := 49) (tgt := 2) C dX0_tryAgain_49 (by decide) ?_
  exact ih1 _ _ hf
theorem tX0_tryAgain {Z : ra_Z} {r : Int32} {w1 : ra_W} (C : ra_C Z cX0_tryAgain 4 RX0 1 22) (hQ : ra_QV Z r w1) (hr : (zmt Z).sig.returnType = none) (k : Nat) (b1 : Nat) (b2 : Nat) (h1 : ra_N b1) (h2 : ra_S b2) : ∀ n : Nat, pX0_tryAgain_0 Z r w1 k b1 b2 n ∧ pX0_tryAgain_1 Z r w1 k b1 b2 n ∧ pX0_tryAgain_2 Z r w1 k b1 b2 n := by
  intro n
  induction n with
  | zero => exact ⟨(fun _ _ h => by cases h), (fun _ _ h => by cases h), (fun _ _ h => by cases h)⟩
  | succ n ih =>
    obtain ⟨ih0, ih1, ih2⟩ := ih
    exact ⟨tX0_tryAgain_0 C hQ hr k b1 b2 h1 h2 n ih1, tX0_tryAgain_1 C hQ hr k b1 b2 h1 h2 n ih2, tX0_tryAgain_2 C hQ hr k b1 b2 h1 h2 n ih1⟩
theorem kX0_tryAgain (l : Launch) (G : ra_G) (hj : ra_inj G) (k : Nat) (b1 : Nat) (b2 : Nat) (h1 : ra_N b1) (h2 : ra_S b2)  (w : ra_W) (r : Int32) (w1 : ra_W) (h : FX0_tryAgain k b1 b2  w = some (r, w1)) : ra_MV l G yX0_tryAgain cX0_tryAgain 4 none 1 22 [.ref (G.1 13), .ref (G.1 b1), .ref (G.1 b2)] w r w1 :=
  ra_entryV (own := RX0) (by decide) rfl (Nat.le_of_ble_eq_true rfl) hj (fun Z hl hG C hQ hr => by subst hl; subst hG; exact (tX0_tryAgain C hQ hr k b1 b2 h1 h2 k).1 _ _ h)
theorem ysX0_tryAgain : ra_YV yX0_tryAgain cX0_tryAgain 4 none 2 RX0 := ⟨⟨wd_4, wd_381, by decide, by decide, by decide⟩, wd_380, wp_10⟩
/-- TrunkRadio$State.rest -/
def fX4_rest (k : Nat) (b0 : Nat) : Nat → Nat → Int32 → ra_W → Option (Int32 × ra_W)
  | 0, _, _, _ => none
  | n + 1, L, v1, w => match L with
    | _ => ra_bind (FX4_enter k b0 v1 0 w) (fun _ w2 => if ra_in v1 7 then some (0, (ra_st (ra_st w2 (b0 + 4) (ra_ix v1) 0) (b0 + 5) (ra_ix v1) 0)) else none)
theorem fX4_rest_0 (k : Nat) (b0 : Nat) (n : Nat) (v1 : Int32) (w : ra_W) : fX4_rest k b0 (n + 1) 0 v1 w = (ra_bind (FX4_enter k b0 v1 0 w) (fun _ w2 => if ra_in v1 7 then some (0, (ra_st (ra_st w2 (b0 + 4) (ra_ix v1) 0) (b0 + 5) (ra_ix v1) 0)) else none)) := rfl
def FX4_rest (k : Nat) (b0 : Nat) (v1 : Int32) (w : ra_W) : Option (Int32 × ra_W) := fX4_rest k b0 k 0 v1 w
def pX4_rest_0 (Z : ra_Z) (r : Int32) (w1 : ra_W) (k : Nat) (b0 : Nat) (n : Nat) : Prop := ∀ (v1 : Int32) (w : ra_W), fX4_rest k b0 n 0 v1 w = some (r, w1) → ra_J Z 2 0 [(0, .ref ((zG Z).1 b0)), (1, .int v1)] [] w
set_option maxHeartbeats 4000000 in
theorem tX4_rest_0 {Z : ra_Z} {r : Int32} {w1 : ra_W} (C : ra_C Z cX4_rest 2 RX4 1 22) (hQ : ra_QV Z r w1) (hr : (zmt Z).sig.returnType = none) (k : Nat) (b0 : Nat) (h0 : ra_S b0) (n : Nat) : pX4_rest_0 Z r w1 k b0 (n + 1) := by
  intro v1 w hf
  rw [fX4_rest_0] at hf
  refine rg_aload_n (pc := 0) C 0 rfl rfl dX4_rest_0 ?_
  refine rg_iload_n (pc := 1) C 1 rfl rfl dX4_rest_1 ?_
  refine rg_iconst (pc := 2) (v := 0) C dX4_rest_2 (by decide) ?_
  obtain ⟨r1, w2, e3, hf⟩ := ra_bd hf
  refine rg_callVV (pc := 3) (As := [.int v1, .int 0]) (st := []) C (kX4_enter (zl Z) (zG Z) C.hj k b0 h0 _ _ _ _ _ e3) h0.1 (by decide) rfl ysX4_enter rfl wd_327 ⟨Nat.le_of_ble_eq_true rfl, Nat.le_of_ble_eq_true rfl⟩ rfl (Nat.le_of_ble_eq_true rfl) dX4_rest_3 ?_
  refine rg_aload_n (pc := 6) C 0 rfl rfl dX4_rest_6 ?_
  refine rg_get (pc := 7) C b0 4 3 h0.1 (by decide) rfl inlX4 (by decide) wd_139 rfl dX4_rest_7 ?_
  refine rg_iload_n (pc := 10) C 1 rfl rfl dX4_rest_10 ?_
  refine rg_iconst (pc := 11) (v := 0) C dX4_rest_11 (by decide) ?_
  obtain ⟨g4, hf⟩ := ra_gd hf
  refine rg_iast (pc := 12) (j := (ra_ix v1)) C (b0 + 4) h0.2.2.2.2.1 rfl g4 dX4_rest_12 ?_
  refine rg_aload_n (pc := 13) C 0 rfl rfl dX4_rest_13 ?_
  refine rg_get (pc := 14) C b0 4 4 h0.1 (by decide) rfl inlX4 (by decide) wd_142 rfl dX4_rest_14 ?_
  refine rg_iload_n (pc := 17) C 1 rfl rfl dX4_rest_17 ?_
  refine rg_iconst (pc := 18) (v := 0) C dX4_rest_18 (by decide) ?_
  refine rg_iast (pc := 19) (j := (ra_ix v1)) C (b0 + 5) h0.2.2.2.2.2.1 rfl g4 dX4_rest_19 ?_
  exact rg_vret (pc := 20) C hQ hr hf dX4_rest_20
theorem tX4_rest {Z : ra_Z} {r : Int32} {w1 : ra_W} (C : ra_C Z cX4_rest 2 RX4 1 22) (hQ : ra_QV Z r w1) (hr : (zmt Z).sig.returnType = none) (k : Nat) (b0 : Nat) (h0 : ra_S b0) : ∀ n : Nat, pX4_rest_0 Z r w1 k b0 n := by
  intro n
  induction n with
  | zero => exact (fun _ _ h => by cases h)
  | succ n ih => exact tX4_rest_0 C hQ hr k b0 h0 n
theorem kX4_rest (l : Launch) (G : ra_G) (hj : ra_inj G) (k : Nat) (b0 : Nat) (h0 : ra_S b0) (v1 : Int32) (w : ra_W) (r : Int32) (w1 : ra_W) (h : FX4_rest k b0 v1 w = some (r, w1)) : ra_MV l G yX4_rest cX4_rest 2 none 1 22 [.ref (G.1 b0), .int v1] w r w1 :=
  ra_entryV (own := RX4) (by decide) rfl (Nat.le_of_ble_eq_true rfl) hj (fun Z hl hG C hQ hr => by subst hl; subst hG; exact (tX4_rest C hQ hr k b0 h0 k) _ _ h)
theorem ysX4_rest : ra_YV yX4_rest cX4_rest 2 none 1 RX4 := ⟨⟨wd_5, wd_326, by decide, by decide, by decide⟩, wd_324, wd_325⟩
/-- TrunkRadio$Air.cutLongTalks -/
def fX0_cutLongTalks (k : Nat) (b1 : Nat) (b2 : Nat) : Nat → Nat → Int32 → ra_W → Option (Int32 × ra_W)
  | 0, _, _, _ => none
  | n + 1, L, v3, w => match L with
    | 0 => fX0_cutLongTalks k b1 b2 n 1 0 w
    | 1 => if (w b1 0) ≤ v3 then (some (0, w)) else (if ra_in v3 7 then if (w 15 (ra_ix v3)) = 4 then (fX0_cutLongTalks k b1 b2 n 2 v3 w) else (if (w 15 (ra_ix v3)) = 5 then (fX0_cutLongTalks k b1 b2 n 2 v3 w) else (fX0_cutLongTalks k b1 b2 n 3 v3 w)) else none)
    | 2 => if ra_in v3 7 then if ((ra_st w (b2 + 3) (ra_ix v3) ((w (b2 + 3) (ra_ix v3)) + 1)) (b2 + 3) (ra_ix v3)) < ((ra_st w (b2 + 3) (ra_ix v3) ((w (b2 + 3) (ra_ix v3)) + 1)) b1 1) then (fX0_cutLongTalks k b1 b2 n 3 v3 (ra_st w (b2 + 3) (ra_ix v3) ((w (b2 + 3) (ra_ix v3)) + 1))) else (ra_bind (FX4_rest k b2 v3 (ra_st w (b2 + 3) (ra_ix v3) ((w (b2 + 3) (ra_ix v3)) + 1))) (fun _ w4 => fX0_cutLongTalks k b1 b2 n 3 v3 (ra_st w4 b2 8 ((w4 b2 8) + 1)))) else none
    | _ => fX0_cutLongTalks k b1 b2 n 1 (v3 + 1) w
theorem fX0_cutLongTalks_0 (k : Nat) (b1 : Nat) (b2 : Nat) (n : Nat) (v3 : Int32) (w : ra_W) : fX0_cutLongTalks k b1 b2 (n + 1) 0 v3 w = (fX0_cutLongTalks k b1 b2 n 1 0 w) := rfl
theorem fX0_cutLongTalks_1 (k : Nat) (b1 : Nat) (b2 : Nat) (n : Nat) (v3 : Int32) (w : ra_W) : fX0_cutLongTalks k b1 b2 (n + 1) 1 v3 w = (if (w b1 0) ≤ v3 then (some (0, w)) else (if ra_in v3 7 then if (w 15 (ra_ix v3)) = 4 then (fX0_cutLongTalks k b1 b2 n 2 v3 w) else (if (w 15 (ra_ix v3)) = 5 then (fX0_cutLongTalks k b1 b2 n 2 v3 w) else (fX0_cutLongTalks k b1 b2 n 3 v3 w)) else none)) := rfl
theorem fX0_cutLongTalks_2 (k : Nat) (b1 : Nat) (b2 : Nat) (n : Nat) (v3 : Int32) (w : ra_W) : fX0_cutLongTalks k b1 b2 (n + 1) 2 v3 w = (if ra_in v3 7 then if ((ra_st w (b2 + 3) (ra_ix v3) ((w (b2 + 3) (ra_ix v3)) + 1)) (b2 + 3) (ra_ix v3)) < ((ra_st w (b2 + 3) (ra_ix v3) ((w (b2 + 3) (ra_ix v3)) + 1)) b1 1) then (fX0_cutLongTalks k b1 b2 n 3 v3 (ra_st w (b2 + 3) (ra_ix v3) ((w (b2 + 3) (ra_ix v3)) + 1))) else (ra_bind (FX4_rest k b2 v3 (ra_st w (b2 + 3) (ra_ix v3) ((w (b2 + 3) (ra_ix v3)) + 1))) (fun _ w4 => fX0_cutLongTalks k b1 b2 n 3 v3 (ra_st w4 b2 8 ((w4 b2 8) + 1)))) else none) := rfl
theorem fX0_cutLongTalks_3 (k : Nat) (b1 : Nat) (b2 : Nat) (n : Nat) (v3 : Int32) (w : ra_W) : fX0_cutLongTalks k b1 b2 (n + 1) 3 v3 w = (fX0_cutLongTalks k b1 b2 n 1 (v3 + 1) w) := rfl
def FX0_cutLongTalks (k : Nat) (b1 : Nat) (b2 : Nat)  (w : ra_W) : Option (Int32 × ra_W) := fX0_cutLongTalks k b1 b2 k 0 0 w
def pX0_cutLongTalks_0 (Z : ra_Z) (r : Int32) (w1 : ra_W) (k : Nat) (b1 : Nat) (b2 : Nat) (n : Nat) : Prop := ∀ (v3 : Int32) (w : ra_W), fX0_cutLongTalks k b1 b2 n 0 v3 w = some (r, w1) → ra_J Z 4 0 [(0, .ref ((zG Z).1 13)), (1, .ref ((zG Z).1 b1)), (2, .ref ((zG Z).1 b2))] [] w
def pX0_cutLongTalks_1 (Z : ra_Z) (r : Int32) (w1 : ra_W) (k : Nat) (b1 : Nat) (b2 : Nat) (n : Nat) : Prop := ∀ (v3 : Int32) (w : ra_W), fX0_cutLongTalks k b1 b2 n 1 v3 w = some (r, w1) → ra_J Z 4 2 [(0, .ref ((zG Z).1 13)), (1, .ref ((zG Z).1 b1)), (2, .ref ((zG Z).1 b2)), (3, .int v3)] [] w
def pX0_cutLongTalks_2 (Z : ra_Z) (r : Int32) (w1 : ra_W) (k : Nat) (b1 : Nat) (b2 : Nat) (n : Nat) : Prop := ∀ (v3 : Int32) (w : ra_W), fX0_cutLongTalks k b1 b2 n 2 v3 w = some (r, w1) → ra_J Z 4 30 [(0, .ref ((zG Z).1 13)), (1, .ref ((zG Z).1 b1)), (2, .ref ((zG Z).1 b2)), (3, .int v3)] [] w
def pX0_cutLongTalks_3 (Z : ra_Z) (r : Int32) (w1 : ra_W) (k : Nat) (b1 : Nat) (b2 : Nat) (n : Nat) : Prop := ∀ (v3 : Int32) (w : ra_W), fX0_cutLongTalks k b1 b2 n 3 v3 w = some (r, w1) → ra_J Z 4 68 [(0, .ref ((zG Z).1 13)), (1, .ref ((zG Z).1 b1)), (2, .ref ((zG Z).1 b2)), (3, .int v3)] [] w
set_option maxHeartbeats 4000000 in
theorem tX0_cutLongTalks_0 {Z : ra_Z} {r : Int32} {w1 : ra_W} (C : ra_C Z cX0_cutLongTalks 4 RX0 2 43) (hQ : ra_QV Z r w1) (hr : (zmt Z).sig.returnType = none) (k : Nat) (b1 : Nat) (b2 : Nat) (h1 : ra_N b1) (h2 : ra_S b2) (n : Nat) (ih1 : pX0_cutLongTalks_1 Z r w1 k b1 b2 n) : pX0_cutLongTalks_0 Z r w1 k b1 b2 (n + 1) := by
  intro v3 w hf
  rw [fX0_cutLongTalks_0] at hf
  refine rg_iconst (pc := 0) (v := 0) C dX0_cutLongTalks_0 (by decide) ?_
  refine rg_istore_n (pc := 1) (lv' := [(0, .ref ((zG Z).1 13)), (1, .ref ((zG Z).1 b1)), (2, .ref ((zG Z).1 b2)), (3, .int 0)]) C [1, 2, 3, 0] rfl rfl (by decide) dX0_cutLongTalks_1 ?_
  exact ih1 _ _ hf
set_option maxHeartbeats 4000000 in
theorem tX0_cutLongTalks_1 {Z : ra_Z} {r : Int32} {w1 : ra_W} (C : ra_C Z cX0_cutLongTalks 4 RX0 2 43) (hQ : ra_QV Z r w1) (hr : (zmt Z).sig.returnType = none) (k : Nat) (b1 : Nat) (b2 : Nat) (h1 : ra_N b1) (h2 : ra_S b2) (n : Nat) (ih2 : pX0_cutLongTalks_2 Z r w1 k b1 b2 n) (ih3 : pX0_cutLongTalks_3 Z r w1 k b1 b2 n) : pX0_cutLongTalks_1 Z r w1 k b1 b2 (n + 1) := by
  intro v3 w hf
  rw [fX0_cutLongTalks_1] at hf
  refine rg_iload_n (pc := 2) C 3 rfl rfl dX0_cutLongTalks_2 ?_
  refine rg_aload_n (pc := 3) C 1 rfl rfl dX0_cutLongTalks_3 ?_
  refine rg_get (pc := 4) C b1 2 0 h1.1 (by decide) rfl inlX2 (by decide) wd_66 rfl dX0_cutLongTalks_4 ?_
  refine rg_icmp_ge (pc := 7) (tgt := 74) C dX0_cutLongTalks_7 (by decide) (fun c1 => ?_) (fun c1 => ?_)
  · replace hf := ra_t hf c1
    exact rg_vret (pc := 74) C hQ hr hf dX0_cutLongTalks_74
  · replace hf := ra_f hf c1
    refine rg_aload_n (pc := 10) C 0 rfl rfl dX0_cutLongTalks_10 ?_
    refine rg_get (pc := 11) C 13 0 1 kd_13 (by decide) rfl inlX0 (by decide) wd_118 rfl dX0_cutLongTalks_11 ?_
    refine rg_iload_n (pc := 14) C 3 rfl rfl dX0_cutLongTalks_14 ?_
    obtain ⟨g2, hf⟩ := ra_gd hf
    refine rg_iald (pc := 15) (j := (ra_ix v3)) C 15 kd_15 rfl g2 dX0_cutLongTalks_15 ?_
    refine rg_iconst (pc := 16) (v := 4) C dX0_cutLongTalks_16 (by decide) ?_
    refine rg_icmp_eq (pc := 17) (tgt := 30) C dX0_cutLongTalks_17 (by decide) (fun c3 => ?_) (fun c3 => ?_)
    · replace hf := ra_t hf c3
      exact ih2 _ _ hf
    · replace hf := ra_f hf c3
      refine rg_aload_n (pc := 20) C 0 rfl rfl dX0_cutLongTalks_20 ?_
      refine rg_get (pc := 21) C 13 0 1 kd_13 (by decide) rfl inlX0 (by decide) wd_118 rfl dX0_cutLongTalks_21 ?_
      refine rg_iload_n (pc := 24) C 3 rfl rfl dX0_cutLongTalks_24 ?_
      refine rg_iald (pc := 25) (j := (ra_ix v3)) C 15 kd_15 rfl g2 dX0_cutLongTalks_25 ?_
      refine rg_iconst (pc := 26) (v := 5) C dX0_cutLongTalks_26 (by decide) ?_
      refine rg_icmp_ne (pc := 27) (tgt := 68) C dX0_cutLongTalks_27 (by decide) (fun c4 => ?_) (fun c4 => ?_)
      · replace hf := ra_f hf c4
        exact ih3 _ _ hf
      · replace hf := ra_t hf c4
        exact ih2 _ _ hf
set_option maxHeartbeats 4000000 in
theorem tX0_cutLongTalks_2 {Z : ra_Z} {r : Int32} {w1 : ra_W} (C : ra_C Z cX0_cutLongTalks 4 RX0 2 43) (hQ : ra_QV Z r w1) (hr : (zmt Z).sig.returnType = none) (k : Nat) (b1 : Nat) (b2 : Nat) (h1 : ra_N b1) (h2 : ra_S b2) (n : Nat) (ih3 : pX0_cutLongTalks_3 Z r w1 k b1 b2 n) : pX0_cutLongTalks_2 Z r w1 k b1 b2 (n + 1) := by
  intro v3 w hf
  rw [fX0_cutLongTalks_2] at hf
  refine rg_aload_n (pc := 30) C 2 rfl rfl dX0_cutLongTalks_30 ?_
  refine rg_get (pc := 31) C b2 4 2 h2.1 (by decide) rfl inlX4 (by decide) wd_137 rfl dX0_cutLongTalks_31 ?_
  refine rg_iload_n (pc := 34) C 3 rfl rfl dX0_cutLongTalks_34 ?_
  refine rg_dup2 (pc := 35) C rfl rfl dX0_cutLongTalks_35 ?_
  obtain ⟨g1, hf⟩ := ra_gd hf
  refine rg_iald (pc := 36) (j := (ra_ix v3)) C (b2 + 3) h2.2.2.2.1 rfl g1 dX0_cutLongTalks_36 ?_
  refine rg_iconst (pc := 37) (v := 1) C dX0_cutLongTalks_37 (by decide) ?_
  refine rg_iadd (pc := 38) C dX0_cutLongTalks_38 ?_
  refine rg_iast (pc := 39) (j := (ra_ix v3)) C (b2 + 3) h2.2.2.2.1 rfl g1 dX0_cutLongTalks_39 ?_
  refine rg_aload_n (pc := 40) C 2 rfl rfl dX0_cutLongTalks_40 ?_
  refine rg_get (pc := 41) C b2 4 2 h2.1 (by decide) rfl inlX4 (by decide) wd_137 rfl dX0_cutLongTalks_41 ?_
  refine rg_iload_n (pc := 44) C 3 rfl rfl dX0_cutLongTalks_44 ?_
  refine rg_iald (pc := 45) (j := (ra_ix v3)) C (b2 + 3) h2.2.2.2.1 rfl g1 dX0_cutLongTalks_45 ?_
  refine rg_aload_n (pc := 46) C 1 rfl rfl dX0_cutLongTalks_46 ?_
  refine rg_get (pc := 47) C b1 2 1 h1.1 (by decide) rfl inlX2 (by decide) wd_71 rfl dX0_cutLongTalks_47 ?_
  refine rg_icmp_lt (pc := 50) (tgt := 68) C dX0_cutLongTalks_50 (by decide) (fun c2 => ?_) (fun c2 => ?_)
  · replace hf := ra_t hf c2
    exact ih3 _ _ hf
  · replace hf := ra_f hf c2
    refine rg_aload_n (pc := 53) C 2 rfl rfl dX0_cutLongTalks_53 ?_
    refine rg_iload_n (pc := 54) C 3 rfl rfl dX0_cutLongTalks_54 ?_
    obtain ⟨r3, w4, e5, hf⟩ := ra_bd hf
    refine rg_callVV (pc := 55) (As := [.int v3]) (st := []) C (kX4_rest (zl Z) (zG Z) C.hj k b2 h2 _ _ _ _ e5) h2.1 (by decide) rfl ysX4_rest rfl wd_386 ⟨Nat.le_of_ble_eq_true rfl, Nat.le_of_ble_eq_true rfl⟩ rfl (Nat.le_of_ble_eq_true rfl) dX0_cutLongTalks_55 ?_
    refine rg_aload_n (pc := 58) C 2 rfl rfl dX0_cutLongTalks_58 ?_
    refine rg_dup (pc := 59) C rfl dX0_cutLongTalks_59 ?_
    refine rg_get (pc := 60) C b2 4 8 h2.1 (by decide) rfl inlX4 (by decide) wd_155 rfl dX0_cutLongTalks_60 ?_
    refine rg_iconst (pc := 63) (v := 1) C dX0_cutLongTalks_63 (by decide) ?_
    refine rg_iadd (pc := 64) C dX0_cutLongTalks_64 ?_
    refine rg_put (pc := 65) C b2 4 8 h2.1 (by decide) rfl inlX4 tyX4 tyX4_ok nmX4 (by decide) wd_155 rfl rfl rfl (Nat.le_of_ble_eq_true rfl) rfl dX0_cutLongTalks_65 ?_
    exact ih3 _ _ hf
set_option maxHeartbeats 4000000 in
theorem tX0_cutLongTalks_3 {Z : ra_Z} {r : Int32} {w1 : ra_W} (C : ra_C Z cX0_cutLongTalks 4 RX0 2 43) (hQ : ra_QV Z r w1) (hr : (zmt Z).sig.returnType = none) (k : Nat) (b1 : Nat) (b2 : Nat) (h1 : ra_N b1) (h2 : ra_S b2) (n : Nat) (ih1 : pX0_cutLongTalks_1 Z r w1 k b1 b2 n) : pX0_cutLongTalks_3 Z r w1 k b1 b2 (n + 1) := by
  intro v3 w hf
  rw [fX0_cutLongTalks_3] at hf
  refine rg_iinc (pc := 68) (v := (v3 + 1)) (lv' := [(0, .ref ((zG Z).1 13)), (1, .ref ((zG Z).1 b1)), (2, .ref ((zG Z).1 b2)), (3, .int (v3 + 1))]) C 3 rfl [1, 2, 3, 0] (ra_ii (by decide)) rfl (by decide) dX0_cutLongTalks_68 ?_
  refine rg_goto (pc := 71) (tgt := 2) C dX0_cutLongTalks_71 (by decide) ?_
  exact ih1 _ _ hf
theorem tX0_cutLongTalks {Z : ra_Z} {r : Int32} {w1 : ra_W} (C : ra_C Z cX0_cutLongTalks 4 RX0 2 43) (hQ : ra_QV Z r w1) (hr : (zmt Z).sig.returnType = none) (k : Nat) (b1 : Nat) (b2 : Nat) (h1 : ra_N b1) (h2 : ra_S b2) : ∀ n : Nat, pX0_cutLongTalks_0 Z r w1 k b1 b2 n ∧ pX0_cutLongTalks_1 Z r w1 k b1 b2 n ∧ pX0_cutLongTalks_2 Z r w1 k b1 b2 n ∧ pX0_cutLongTalks_3 Z r w1 k b1 b2 n := by
  intro n
  induction n with
  | zero => exact ⟨(fun _ _ h => by cases h), (fun _ _ h => by cases h), (fun _ _ h => by cases h), (fun _ _ h => by cases h)⟩
  | succ n ih =>
    obtain ⟨ih0, ih1, ih2, ih3⟩ := ih
    exact ⟨tX0_cutLongTalks_0 C hQ hr k b1 b2 h1 h2 n ih1, tX0_cutLongTalks_1 C hQ hr k b1 b2 h1 h2 n ih2 ih3, tX0_cutLongTalks_2 C hQ hr k b1 b2 h1 h2 n ih3, tX0_cutLongTalks_3 C hQ hr k b1 b2 h1 h2 n ih1⟩
theorem kX0_cutLongTalks (l : Launch) (G : ra_G) (hj : ra_inj G) (k : Nat) (b1 : Nat) (b2 : Nat) (h1 : ra_N b1) (h2 : ra_S b2)  (w : ra_W) (r : Int32) (w1 : ra_W) (h : FX0_cutLongTalks k b1 b2  w = some (r, w1)) : ra_MV l G yX0_cutLongTalks cX0_cutLongTalks 4 none 2 43 [.ref (G.1 13), .ref (G.1 b1), .ref (G.1 b2)] w r w1 :=
  ra_entryV (own := RX0) (by decide) rfl (Nat.le_of_ble_eq_true rfl) hj (fun Z hl hG C hQ hr => by subst hl; subst hG; exact (tX0_cutLongTalks C hQ hr k b1 b2 h1 h2 k).1 _ _ h)
theorem ysX0_cutLongTalks : ra_YV yX0_cutLongTalks cX0_cutLongTalks 4 none 2 RX0 := ⟨⟨wd_4, wd_385, by decide, by decide, by decide⟩, wd_384, wp_11⟩
/-- TrunkRadio$Air.isAhead -/
def fX0_isAhead (k : Nat) (b0 : Nat) (b1 : Nat) : Nat → Nat → Int32 → Int32 → ra_W → Option (Int32 × ra_W)
  | 0, _, _, _, _ => none
  | n + 1, L, v2, v3, w => match L with
    | _ => if ra_in v2 7 then if ra_in v3 7 then if (w (b1 + 4) (ra_ix v2)) = (w (b1 + 4) (ra_ix v3)) then (if ((4 * (w (b0 + 4) (ra_ix v2))) + (w (b1 + 3) (ra_ix v2))) ≤ ((4 * (w (b0 + 4) (ra_ix v3))) + (w (b1 + 3) (ra_ix v3))) then (some (0, w)) else (some (1, w))) else (if (w (b1 + 4) (ra_ix v2)) = 1 then (some (1, w)) else (some (0, w))) else none else none
theorem fX0_isAhead_0 (k : Nat) (b0 : Nat) (b1 : Nat) (n : Nat) (v2 : Int32) (v3 : Int32) (w : ra_W) : fX0_isAhead k b0 b1 (n + 1) 0 v2 v3 w = (if ra_in v2 7 then if ra_in v3 7 then if (w (b1 + 4) (ra_ix v2)) = (w (b1 + 4) (ra_ix v3)) then (if ((4 * (w (b0 + 4) (ra_ix v2))) + (w (b1 + 3) (ra_ix v2))) ≤ ((4 * (w (b0 + 4) (ra_ix v3))) + (w (b1 + 3) (ra_ix v3))) then (some (0, w)) else (some (1, w))) else (if (w (b1 + 4) (ra_ix v2)) = 1 then (some (1, w)) else (some (0, w))) else none else none) := rfl
def FX0_isAhead (k : Nat) (b0 : Nat) (b1 : Nat) (v2 : Int32) (v3 : Int32) (w : ra_W) : Option (Int32 × ra_W) := fX0_isAhead k b0 b1 k 0 v2 v3 w
def pX0_isAhead_0 (Z : ra_Z) (r : Int32) (w1 : ra_W) (k : Nat) (b0 : Nat) (b1 : Nat) (n : Nat) : Prop := ∀ (v2 : Int32) (v3 : Int32) (w : ra_W), fX0_isAhead k b0 b1 n 0 v2 v3 w = some (r, w1) → ra_J Z 4 0 [(0, .ref ((zG Z).1 b0)), (1, .ref ((zG Z).1 b1)), (2, .int v2), (3, .int v3)] [] w
set_option maxHeartbeats 4000000 in
theorem tX0_isAhead_0 {Z : ra_Z} {r : Int32} {w1 : ra_W} (C : ra_C Z cX0_isAhead 4 RX0 0 0) (hQ : ra_QI Z r w1) (hr : (zmt Z).sig.returnType = (some .boolean)) (k : Nat) (b0 : Nat) (b1 : Nat) (h0 : ra_N b0) (h1 : ra_S b1) (n : Nat) : pX0_isAhead_0 Z r w1 k b0 b1 (n + 1) := by
  intro v2 v3 w hf
  rw [fX0_isAhead_0] at hf
  refine rg_aload_n (pc := 0) C 1 rfl rfl dX0_isAhead_0 ?_
  refine rg_get (pc := 1) C b1 4 3 h1.1 (by decide) rfl inlX4 (by decide) wd_140 rfl dX0_isAhead_1 ?_
  refine rg_iload_n (pc := 4) C 2 rfl rfl dX0_isAhead_4 ?_
  obtain ⟨g1, hf⟩ := ra_gd hf
  refine rg_iald (pc := 5) (j := (ra_ix v2)) C (b1 + 4) h1.2.2.2.2.1 rfl g1 dX0_isAhead_5 ?_
  refine rg_aload_n (pc := 6) C 1 rfl rfl dX0_isAhead_6 ?_
  refine rg_get (pc := 7) C b1 4 3 h1.1 (by decide) rfl inlX4 (by decide) wd_140 rfl dX0_isAhead_7 ?_
  refine rg_iload_n (pc := 10) C 3 rfl rfl dX0_isAhead_10 ?_
  obtain ⟨g2, hf⟩ := ra_gd hf
  refine rg_iald (pc := 11) (j := (ra_ix v3)) C (b1 + 4) h1.2.2.2.2.1 rfl g2 dX0_isAhead_11 ?_
  refine rg_icmp_eq (pc := 12) (tgt := 31) C dX0_isAhead_12 (by decide) (fun c3 => ?_) (fun c3 => ?_)
  · replace hf := ra_t hf c3
    refine rg_iconst (pc := 31) (v := 4) C dX0_isAhead_31 (by decide) ?_
    refine rg_aload_n (pc := 32) C 0 rfl rfl dX0_isAhead_32 ?_
    refine rg_get (pc := 33) C b0 2 6 h0.1 (by decide) rfl inlX2 (by decide) wd_92 rfl dX0_isAhead_33 ?_
    refine rg_iload_n (pc := 36) C 2 rfl rfl dX0_isAhead_36 ?_
    refine rg_iald (pc := 37) (j := (ra_ix v2)) C (b0 + 4) h0.2.2.2.2 rfl g1 dX0_isAhead_37 ?_
    refine rg_imul (pc := 38) C dX0_isAhead_38 ?_
    refine rg_aload_n (pc := 39) C 1 rfl rfl dX0_isAhead_39 ?_
    refine rg_get (pc := 40) C b1 4 2 h1.1 (by decide) rfl inlX4 (by decide) wd_137 rfl dX0_isAhead_40 ?_
    refine rg_iload_n (pc := 43) C 2 rfl rfl dX0_isAhead_43 ?_
    refine rg_iald (pc := 44) (j := (ra_ix v2)) C (b1 + 3) h1.2.2.2.1 rfl g1 dX0_isAhead_44 ?_
    refine rg_iadd (pc := 45) C dX0_isAhead_45 ?_
    refine rg_iconst (pc := 46) (v := 4) C dX0_isAhead_46 (by decide) ?_
    refine rg_aload_n (pc := 47) C 0 rfl rfl dX0_isAhead_47 ?_
    refine rg_get (pc := 48) C b0 2 6 h0.1 (by decide) rfl inlX2 (by decide) wd_92 rfl dX0_isAhead_48 ?_
    refine rg_iload_n (pc := 51) C 3 rfl rfl dX0_isAhead_51 ?_
    refine rg_iald (pc := 52) (j := (ra_ix v3)) C (b0 + 4) h0.2.2.2.2 rfl g2 dX0_isAhead_52 ?_
    refine rg_imul (pc := 53) C dX0_isAhead_53 ?_
    refine rg_aload_n (pc := 54) C 1 rfl rfl dX0_isAhead_54 ?_
    refine rg_get (pc := 55) C b1 4 2 h1.1 (by decide) rfl inlX4 (by decide) wd_137 rfl dX0_isAhead_55 ?_
    refine rg_iload_n (pc := 58) C 3 rfl rfl dX0_isAhead_58 ?_
    refine rg_iald (pc := 59) (j := (ra_ix v3)) C (b1 + 3) h1.2.2.2.1 rfl g2 dX0_isAhead_59 ?_
    refine rg_iadd (pc := 60) C dX0_isAhead_60 ?_
    refine rg_icmp_le (pc := 61) (tgt := 68) C dX0_isAhead_61 (by decide) (fun c4 => ?_) (fun c4 => ?_)
    · replace hf := ra_t hf c4
      refine rg_iconst (pc := 68) (v := 0) C dX0_isAhead_68 (by decide) ?_
      exact rg_zret (pc := 69) C hQ hr (by decide) hf dX0_isAhead_69
    · replace hf := ra_f hf c4
      refine rg_iconst (pc := 64) (v := 1) C dX0_isAhead_64 (by decide) ?_
      refine rg_goto (pc := 65) (tgt := 69) C dX0_isAhead_65 (by decide) ?_
      exact rg_zret (pc := 69) C hQ hr (by decide) hf dX0_isAhead_69
  · replace hf := ra_f hf c3
    refine rg_aload_n (pc := 15) C 1 rfl rfl dX0_isAhead_15 ?_
    refine rg_get (pc := 16) C b1 4 3 h1.1 (by decide) rfl inlX4 (by decide) wd_140 rfl dX0_isAhead_16 ?_
    refine rg_iload_n (pc := 19) C 2 rfl rfl dX0_isAhead_19 ?_
    refine rg_iald (pc := 20) (j := (ra_ix v2)) C (b1 + 4) h1.2.2.2.2.1 rfl g1 dX0_isAhead_20 ?_
    refine rg_iconst (pc := 21) (v := 1) C dX0_isAhead_21 (by decide) ?_
    refine rg_icmp_ne (pc := 22) (tgt := 29) C dX0_isAhead_22 (by decide) (fun c5 => ?_) (fun c5 => ?_)
    · replace hf := ra_f hf c5
      refine rg_iconst (pc := 29) (v := 0) C dX0_isAhead_29 (by decide) ?_
      exact rg_zret (pc := 30) C hQ hr (by decide) hf dX0_isAhead_30
    · replace hf := ra_t hf c5
      refine rg_iconst (pc := 25) (v := 1) C dX0_isAhead_25 (by decide) ?_
      refine rg_goto (pc := 26) (tgt := 30) C dX0_isAhead_26 (by decide) ?_
      exact rg_zret (pc := 30) C hQ hr (by decide) hf dX0_isAhead_30
theorem tX0_isAhead {Z : ra_Z} {r : Int32} {w1 : ra_W} (C : ra_C Z cX0_isAhead 4 RX0 0 0) (hQ : ra_QI Z r w1) (hr : (zmt Z).sig.returnType = (some .boolean)) (k : Nat) (b0 : Nat) (b1 : Nat) (h0 : ra_N b0) (h1 : ra_S b1) : ∀ n : Nat, pX0_isAhead_0 Z r w1 k b0 b1 n := by
  intro n
  induction n with
  | zero => exact (fun _ _ _ h => by cases h)
  | succ n ih => exact tX0_isAhead_0 C hQ hr k b0 b1 h0 h1 n
theorem kX0_isAhead (l : Launch) (G : ra_G) (hj : ra_inj G) (k : Nat) (b0 : Nat) (b1 : Nat) (h0 : ra_N b0) (h1 : ra_S b1) (v2 : Int32) (v3 : Int32) (w : ra_W) (r : Int32) (w1 : ra_W) (h : FX0_isAhead k b0 b1 v2 v3 w = some (r, w1)) : ra_MI l G yX0_isAhead cX0_isAhead 4 (some .boolean) 0 0 [.ref (G.1 b0), .ref (G.1 b1), .int v2, .int v3] w r w1 :=
  ra_entryI (own := RX0) (by decide) rfl (Nat.le_of_ble_eq_true rfl) hj (fun Z hl hG C hQ hr => by subst hl; subst hG; exact (tX0_isAhead C hQ hr k b0 b1 h0 h1 k) _ _ _ h)
theorem ysX0_isAhead : ra_YS yX0_isAhead cX0_isAhead 4 (some .boolean) 4 := ⟨⟨wd_4, wd_393, by decide, by decide, by decide⟩, wd_392⟩
/-- TrunkRadio$Air.lineUp -/
def fX0_lineUp (k : Nat) (b1 : Nat) (b2 : Nat) : Nat → Nat → Int32 → Int32 → Int32 → ra_W → Option (Int32 × ra_W)
  | 0, _, _, _, _, _ => none
  | n + 1, L, v3, v4, v5, w => match L with
    | 0 => fX0_lineUp k b1 b2 n 1 0 0 0 w
    | 1 => if (w b1 0) ≤ v4 then (some (v3, w)) else (if ra_in v4 7 then if (w (b2 + 2) (ra_ix v4)) = 3 then (fX0_lineUp k b1 b2 n 2 v3 v4 v3 w) else (fX0_lineUp k b1 b2 n 4 v3 v4 0 w) else none)
    | 2 => if v5 ≤ 0 then (fX0_lineUp k b1 b2 n 3 v3 v4 v5 w) else (if ra_in (v5 - 1) 7 then ra_bind (FX0_isAhead k b1 b2 v4 (w 14 (ra_ix (v5 - 1))) w) (fun r3 w4 => if r3 = 0 then (fX0_lineUp k b1 b2 n 3 v3 v4 v5 w4) else (if ra_in v5 7 then fX0_lineUp k b1 b2 n 2 v3 v4 (v5 + (-1)) (ra_st w4 14 (ra_ix v5) (w4 14 (ra_ix (v5 - 1)))) else none)) else none)
    | 3 => if ra_in v5 7 then fX0_lineUp k b1 b2 n 4 (v3 + 1) v4 0 (ra_st w 14 (ra_ix v5) v4) else none
    | _ => fX0_lineUp k b1 b2 n 1 v3 (v4 + 1) 0 w
theorem fX0_lineUp_0 (k : Nat) (b1 : Nat) (b2 : Nat) (n : Nat) (v3 : Int32) (v4 : Int32) (v5 : Int32) (w : ra_W) : fX0_lineUp k b1 b2 (n + 1) 0 v3 v4 v5 w = (fX0_lineUp k b1 b2 n 1 0 0 0 w) := rfl
theorem fX0_lineUp_1 (k : Nat) (b1 : Nat) (b2 : Nat) (n : Nat) (v3 : Int32) (v4 : Int32) (v5 : Int32) (w : ra_W) : fX0_lineUp k b1 b2 (n + 1) 1 v3 v4 v5 w = (if (w b1 0) ≤ v4 then (some (v3, w)) else (if ra_in v4 7 then if (w (b2 + 2) (ra_ix v4)) = 3 then (fX0_lineUp k b1 b2 n 2 v3 v4 v3 w) else (fX0_lineUp k b1 b2 n 4 v3 v4 0 w) else none)) := rfl
theorem fX0_lineUp_2 (k : Nat) (b1 : Nat) (b2 : Nat) (n : Nat) (v3 : Int32) (v4 : Int32) (v5 : Int32) (w : ra_W) : fX0_lineUp k b1 b2 (n + 1) 2 v3 v4 v5 w = (if v5 ≤ 0 then (fX0_lineUp k b1 b2 n 3 v3 v4 v5 w) else (if ra_in (v5 - 1) 7 then ra_bind (FX0_isAhead k b1 b2 v4 (w 14 (ra_ix (v5 - 1))) w) (fun r3 w4 => if r3 = 0 then (fX0_lineUp k b1 b2 n 3 v3 v4 v5 w4) else (if ra_in v5 7 then fX0_lineUp k b1 b2 n 2 v3 v4 (v5 + (-1)) (ra_st w4 14 (ra_ix v5) (w4 14 (ra_ix (v5 - 1)))) else none)) else none)) := rfl
theorem fX0_lineUp_3 (k : Nat) (b1 : Nat) (b2 : Nat) (n : Nat) (v3 : Int32) (v4 : Int32) (v5 : Int32) (w : ra_W) : fX0_lineUp k b1 b2 (n + 1) 3 v3 v4 v5 w = (if ra_in v5 7 then fX0_lineUp k b1 b2 n 4 (v3 + 1) v4 0 (ra_st w 14 (ra_ix v5) v4) else none) := rfl
theorem fX0_lineUp_4 (k : Nat) (b1 : Nat) (b2 : Nat) (n : Nat) (v3 : Int32) (v4 : Int32) (v5 : Int32) (w : ra_W) : fX0_lineUp k b1 b2 (n + 1) 4 v3 v4 v5 w = (fX0_lineUp k b1 b2 n 1 v3 (v4 + 1) 0 w) := rfl
def FX0_lineUp (k : Nat) (b1 : Nat) (b2 : Nat)  (w : ra_W) : Option (Int32 × ra_W) := fX0_lineUp k b1 b2 k 0 0 0 0 w
def pX0_lineUp_0 (Z : ra_Z) (r : Int32) (w1 : ra_W) (k : Nat) (b1 : Nat) (b2 : Nat) (n : Nat) : Prop := ∀ (v3 : Int32) (v4 : Int32) (v5 : Int32) (w : ra_W), fX0_lineUp k b1 b2 n 0 v3 v4 v5 w = some (r, w1) → ra_J Z 6 0 [(0, .ref ((zG Z).1 13)), (1, .ref ((zG Z).1 b1)), (2, .ref ((zG Z).1 b2))] [] w
def pX0_lineUp_1 (Z : ra_Z) (r : Int32) (w1 : ra_W) (k : Nat) (b1 : Nat) (b2 : Nat) (n : Nat) : Prop := ∀ (v3 : Int32) (v4 : Int32) (v5 : Int32) (w : ra_W), fX0_lineUp k b1 b2 n 1 v3 v4 v5 w = some (r, w1) → ra_J Z 6 5 [(0, .ref ((zG Z).1 13)), (1, .ref ((zG Z).1 b1)), (2, .ref ((zG Z).1 b2)), (3, .int v3), (4, .int v4)] [] w
def pX0_lineUp_2 (Z : ra_Z) (r : Int32) (w1 : ra_W) (k : Nat) (b1 : Nat) (b2 : Nat) (n : Nat) : Prop := ∀ (v3 : Int32) (v4 : Int32) (v5 : Int32) (w : ra_W), fX0_lineUp k b1 b2 n 2 v3 v4 v5 w = some (r, w1) → ra_J Z 6 31 [(0, .ref ((zG Z).1 13)), (1, .ref ((zG Z).1 b1)), (2, .ref ((zG Z).1 b2)), (3, .int v3), (4, .int v4), (5, .int v5)] [] w
def pX0_lineUp_3 (Z : ra_Z) (r : Int32) (w1 : ra_W) (k : Nat) (b1 : Nat) (b2 : Nat) (n : Nat) : Prop := ∀ (v3 : Int32) (v4 : Int32) (v5 : Int32) (w : ra_W), fX0_lineUp k b1 b2 n 3 v3 v4 v5 w = some (r, w1) → ra_J Z 6 77 [(0, .ref ((zG Z).1 13)), (1, .ref ((zG Z).1 b1)), (2, .ref ((zG Z).1 b2)), (3, .int v3), (4, .int v4), (5, .int v5)] [] w
def pX0_lineUp_4 (Z : ra_Z) (r : Int32) (w1 : ra_W) (k : Nat) (b1 : Nat) (b2 : Nat) (n : Nat) : Prop := ∀ (v3 : Int32) (v4 : Int32) (v5 : Int32) (w : ra_W), fX0_lineUp k b1 b2 n 4 v3 v4 v5 w = some (r, w1) → ra_J Z 6 89 [(0, .ref ((zG Z).1 13)), (1, .ref ((zG Z).1 b1)), (2, .ref ((zG Z).1 b2)), (3, .int v3), (4, .int v4)] [] w
set_option maxHeartbeats 4000000 in
theorem tX0_lineUp_0 {Z : ra_Z} {r : Int32} {w1 : ra_W} (C : ra_C Z cX0_lineUp 6 RX0 1 23) (hQ : ra_QI Z r w1) (hr : (zmt Z).sig.returnType = (some .int)) (k : Nat) (b1 : Nat) (b2 : Nat) (h1 : ra_N b1) (h2 : ra_S b2) (n : Nat) (ih1 : pX0_lineUp_1 Z r w1 k b1 b2 n) : pX0_lineUp_0 Z r w1 k b1 b2 (n + 1) := by
  intro v3 v4 v5 w hf
  rw [fX0_lineUp_0] at hf
  refine rg_iconst (pc := 0) (v := 0) C dX0_lineUp_0 (by decide) ?_
  refine rg_istore_n (pc := 1) (lv' := [(0, .ref ((zG Z).1 13)), (1, .ref ((zG Z).1 b1)), (2, .ref ((zG Z).1 b2)), (3, .int 0)]) C [1, 2, 3, 0] rfl rfl (by decide) dX0_lineUp_1 ?_
  refine rg_iconst (pc := 2) (v := 0) C dX0_lineUp_2 (by decide) ?_
  refine rg_istore (pc := 3) (lv' := [(0, .ref ((zG Z).1 13)), (1, .ref ((zG Z).1 b1)), (2, .ref ((zG Z).1 b2)), (3, .int 0), (4, .int 0)]) C [1, 2, 3, 4, 0] rfl (by decide) dX0_lineUp_3 ?_
  exact ih1 _ _ _ _ hf
set_option maxHeartbeats 4000000 in
theorem tX0_lineUp_1 {Z : ra_Z} {r : Int32} {w1 : ra_W} (C : ra_C Z cX0_lineUp 6 RX0 1 23) (hQ : ra_QI Z r w1) (hr : (zmt Z).sig.returnType = (some .int)) (k : Nat) (b1 : Nat) (b2 : Nat) (h1 : ra_N b1) (h2 : ra_S b2) (n : Nat) (ih2 : pX0_lineUp_2 Z r w1 k b1 b2 n) (ih4 : pX0_lineUp_4 Z r w1 k b1 b2 n) : pX0_lineUp_1 Z r w1 k b1 b2 (n + 1) := by
  intro v3 v4 v5 w hf
  rw [fX0_lineUp_1] at hf
  refine rg_iload (pc := 5) C 4 rfl dX0_lineUp_5 ?_
  refine rg_aload_n (pc := 7) C 1 rfl rfl dX0_lineUp_7 ?_
  refine rg_get (pc := 8) C b1 2 0 h1.1 (by decide) rfl inlX2 (by decide) wd_66 rfl dX0_lineUp_8 ?_
  refine rg_icmp_ge (pc := 11) (tgt := 95) C dX0_lineUp_11 (by decide) (fun c1 => ?_) (fun c1 => ?_)
  · replace hf := ra_t hf c1
    refine rg_iload_n (pc := 95) C 3 rfl rfl dX0_lineUp_95 ?_
    exact rg_iret (pc := 96) C hQ hr hf dX0_lineUp_96
  · replace hf := ra_f hf c1
    refine rg_aload_n (pc := 14) C 2 rfl rfl dX0_lineUp_14 ?_
    refine rg_get (pc := 15) C b2 4 1 h2.1 (by decide) rfl inlX4 (by decide) wd_134 rfl dX0_lineUp_15 ?_
    refine rg_iload (pc := 18) C 4 rfl dX0_lineUp_18 ?_
    obtain ⟨g2, hf⟩ := ra_gd hf
    refine rg_iald (pc := 20) (j := (ra_ix v4)) C (b2 + 2) h2.2.2.1 rfl g2 dX0_lineUp_20 ?_
    refine rg_iconst (pc := 21) (v := 3) C dX0_lineUp_21 (by decide) ?_
    refine rg_icmp_eq (pc := 22) (tgt := 28) C dX0_lineUp_22 (by decide) (fun c3 => ?_) (fun c3 => ?_)
    · replace hf := ra_t hf c3
      refine rg_iload_n (pc := 28) C 3 rfl rfl dX0_lineUp_28 ?_
      refine rg_istore (pc := 29) (lv' := [(0, .ref ((zG Z).1 13)), (1, .ref ((zG Z).1 b1)), (2, .ref ((zG Z).1 b2)), (3, .int v3), (4, .int v4), (5, .int v3)]) C [1, 2, 3, 4, 5, 0] rfl (by decide) dX0_lineUp_29 ?_
      exact ih2 _ _ _ _ hf
    · replace hf := ra_f hf c3
      refine rg_goto (pc := 25) (tgt := 89) C dX0_lineUp_25 (by decide) ?_
      exact ih4 _ _ _ _ hf
set_option maxHeartbeats 4000000 in
theorem tX0_lineUp_2 {Z : ra_Z} {r : Int32} {w1 : ra_W} (C : ra_C Z cX0_lineUp 6 RX0 1 23) (hQ : ra_QI Z r w1) (hr : (zmt Z).sig.returnType = (some .int)) (k : Nat) (b1 : Nat) (b2 : Nat) (h1 : ra_N b1) (h2 : ra_S b2) (n : Nat) (ih2 : pX0_lineUp_2 Z r w1 k b1 b2 n) (ih3 : pX0_lineUp_3 Z r w1 k b1 b2 n) : pX0_lineUp_2 Z r w1 k b1 b2 (n + 1) := by
  intro v3 v4 v5 w hf
  rw [fX0_lineUp_2] at hf
  refine rg_iload (pc := 31) C 5 rfl dX0_lineUp_31 ?_
  refine rg_if_le (pc := 33) (tgt := 77) C dX0_lineUp_33 (by decide) (fun c1 => ?_) (fun c1 => ?_)
  · replace hf := ra_t hf c1
    exact ih3 _ _ _ _ hf
  · replace hf := ra_f hf c1
    refine rg_aload_n (pc := 36) C 1 rfl rfl dX0_lineUp_36 ?_
    refine rg_aload_n (pc := 37) C 2 rfl rfl dX0_lineUp_37 ?_
    refine rg_iload (pc := 38) C 4 rfl dX0_lineUp_38 ?_
    refine rg_aload_n (pc := 40) C 0 rfl rfl dX0_lineUp_40 ?_
    refine rg_get (pc := 41) C 13 0 0 kd_13 (by decide) rfl inlX0 (by decide) wd_116 rfl dX0_lineUp_41 ?_
    refine rg_iload (pc := 44) C 5 rfl dX0_lineUp_44 ?_
    refine rg_iconst (pc := 46) (v := 1) C dX0_lineUp_46 (by decide) ?_
    refine rg_isub (pc := 47) C dX0_lineUp_47 ?_
    obtain ⟨g2, hf⟩ := ra_gd hf
    refine rg_iald (pc := 48) (j := (ra_ix (v5 - 1))) C 14 kd_14 rfl g2 dX0_lineUp_48 ?_
    obtain ⟨r3, w4, e5, hf⟩ := ra_bd hf
    refine rg_callSI (pc := 49) (As := [.ref ((zG Z).1 b1), .ref ((zG Z).1 b2), .int v4, .int (w 14 (ra_ix (v5 - 1)))]) (st := []) C (kX0_isAhead (zl Z) (zG Z) C.hj k b1 b2 h1 h2 _ _ _ _ _ e5) ysX0_isAhead rfl wd_391 ⟨Nat.le_of_ble_eq_true rfl, Nat.le_of_ble_eq_true rfl⟩ rfl (Nat.le_of_ble_eq_true rfl) dX0_lineUp_49 ?_
    refine rg_if_eq (pc := 52) (tgt := 77) C dX0_lineUp_52 (by decide) (fun c6 => ?_) (fun c6 => ?_)
    · replace hf := ra_t hf c6
      exact ih3 _ _ _ _ hf
    · replace hf := ra_f hf c6
      refine rg_aload_n (pc := 55) C 0 rfl rfl dX0_lineUp_55 ?_
      refine rg_get (pc := 56) C 13 0 0 kd_13 (by decide) rfl inlX0 (by decide) wd_116 rfl dX0_lineUp_56 ?_
      refine rg_iload (pc := 59) C 5 rfl dX0_lineUp_59 ?_
      refine rg_aload_n (pc := 61) C 0 rfl rfl dX0_lineUp_61 ?_
      refine rg_get (pc := 62) C 13 0 0 kd_13 (by decide) rfl inlX0 (by decide) wd_116 rfl dX0_lineUp_62 ?_
      refine rg_iload (pc := 65) C 5 rfl dX0_lineUp_65 ?_
      refine rg_iconst (pc := 67) (v := 1) C dX0_lineUp_67 (by decide) ?_
      refine rg_isub (pc := 68) C dX0_lineUp_68 ?_
      refine rg_iald (pc := 69) (j := (ra_ix (v5 - 1))) C 14 kd_14 rfl g2 dX0_lineUp_69 ?_
      obtain ⟨g7, hf⟩ := ra_gd hf
      refine rg_iast (pc := 70) (j := (ra_ix v5)) C 14 kd_14 rfl g7 dX0_lineUp_70 ?_
      refine rg_iinc (pc := 71) (v := (v5 + (-1))) (lv' := [(0, .ref ((zG Z).1 13)), (1, .ref ((zG Z).1 b1)), (2, .ref ((zG Z).1 b2)), (3, .int v3), (4, .int v4), (5, .int (v5 + (-1)))]) C 5 rfl [1, 2, 3, 4, 5, 0] (ra_ii (by decide)) rfl (by decide) dX0_lineUp_71 ?_
      refine rg_goto (pc := 74) (tgt := 31) C dX0_lineUp_74 (by decide) ?_
      exact ih2 _ _ _ _ hf
set_option maxHeartbeats 4000000 in
theorem tX0_lineUp_3 {Z : ra_Z} {r : Int32} {w1 : ra_W} (C : ra_C Z cX0_lineUp 6 RX0 1 23) (hQ : ra_QI Z r w1) (hr : (zmt Z).sig.returnType = (some .int)) (k : Nat) (b1 : Nat) (b2 : Nat) (h1 : ra_N b1) (h2 : ra_S b2) (n : Nat) (ih4 : pX0_lineUp_4 Z r w1 k b1 b2 n) : pX0_lineUp_3 Z r w1 k b1 b2 (n + 1) := by
  intro v3 v4 v5 w hf
  rw [fX0_lineUp_3] at hf
  refine rg_aload_n (pc := 77) C 0 rfl rfl dX0_lineUp_77 ?_
  refine rg_get (pc := 78) C 13 0 0 kd_13 (by decide) rfl inlX0 (by decide) wd_116 rfl dX0_lineUp_78 ?_
  refine rg_iload (pc := 81) C 5 rfl dX0_lineUp_81 ?_
  refine rg_iload (pc := 83) C 4 rfl dX0_lineUp_83 ?_
  obtain ⟨g1, hf⟩ := ra_gd hf
  refine rg_iast (pc := 85) (j := (ra_ix v5)) C 14 kd_14 rfl g1 dX0_lineUp_85 ?_
  refine rg_iinc (pc := 86) (v := (v3 + 1)) (lv' := [(0, .ref ((zG Z).1 13)), (1, .ref ((zG Z).1 b1)), (2, .ref ((zG Z).1 b2)), (3, .int (v3 + 1)), (4, .int v4), (5, .int v5)]) C 3 rfl [1, 2, 3, 0, 4, 5] (ra_ii (by decide)) rfl (by decide) dX0_lineUp_86 ?_
  refine rg_sub [0, 1, 2, 3, 4] rfl ?_
  exact ih4 _ _ _ _ hf
set_option maxHeartbeats 4000000 in
theorem tX0_lineUp_4 {Z : ra_Z} {r : Int32} {w1 : ra_W} (C : ra_C Z cX0_lineUp 6 RX0 1 23) (hQ : ra_QI Z r w1) (hr : (zmt Z).sig.returnType = (some .int)) (k : Nat) (b1 : Nat) (b2 : Nat) (h1 : ra_N b1) (h2 : ra_S b2) (n : Nat) (ih1 : pX0_lineUp_1 Z r w1 k b1 b2 n) : pX0_lineUp_4 Z r w1 k b1 b2 (n + 1) := by
  intro v3 v4 v5 w hf
  rw [fX0_lineUp_4] at hf
  refine rg_iinc (pc := 89) (v := (v4 + 1)) (lv' := [(0, .ref ((zG Z).1 13)), (1, .ref ((zG Z).1 b1)), (2, .ref ((zG Z).1 b2)), (3, .int v3), (4, .int (v4 + 1))]) C 4 rfl [1, 2, 3, 4, 0] (ra_ii (by decide)) rfl (by decide) dX0_lineUp_89 ?_
  refine rg_goto (pc := 92) (tgt := 5) C dX0_lineUp_92 (by decide) ?_
  exact ih1 _ _ _ _ hf
theorem tX0_lineUp {Z : ra_Z} {r : Int32} {w1 : ra_W} (C : ra_C Z cX0_lineUp 6 RX0 1 23) (hQ : ra_QI Z r w1) (hr : (zmt Z).sig.returnType = (some .int)) (k : Nat) (b1 : Nat) (b2 : Nat) (h1 : ra_N b1) (h2 : ra_S b2) : ∀ n : Nat, pX0_lineUp_0 Z r w1 k b1 b2 n ∧ pX0_lineUp_1 Z r w1 k b1 b2 n ∧ pX0_lineUp_2 Z r w1 k b1 b2 n ∧ pX0_lineUp_3 Z r w1 k b1 b2 n ∧ pX0_lineUp_4 Z r w1 k b1 b2 n := by
  intro n
  induction n with
  | zero => exact ⟨(fun _ _ _ _ h => by cases h), (fun _ _ _ _ h => by cases h), (fun _ _ _ _ h => by cases h), (fun _ _ _ _ h => by cases h), (fun _ _ _ _ h => by cases h)⟩
  | succ n ih =>
    obtain ⟨ih0, ih1, ih2, ih3, ih4⟩ := ih
    exact ⟨tX0_lineUp_0 C hQ hr k b1 b2 h1 h2 n ih1, tX0_lineUp_1 C hQ hr k b1 b2 h1 h2 n ih2 ih4, tX0_lineUp_2 C hQ hr k b1 b2 h1 h2 n ih2 ih3, tX0_lineUp_3 C hQ hr k b1 b2 h1 h2 n ih4, tX0_lineUp_4 C hQ hr k b1 b2 h1 h2 n ih1⟩
theorem kX0_lineUp (l : Launch) (G : ra_G) (hj : ra_inj G) (k : Nat) (b1 : Nat) (b2 : Nat) (h1 : ra_N b1) (h2 : ra_S b2)  (w : ra_W) (r : Int32) (w1 : ra_W) (h : FX0_lineUp k b1 b2  w = some (r, w1)) : ra_MI l G yX0_lineUp cX0_lineUp 6 (some .int) 1 23 [.ref (G.1 13), .ref (G.1 b1), .ref (G.1 b2)] w r w1 :=
  ra_entryI (own := RX0) (by decide) rfl (Nat.le_of_ble_eq_true rfl) hj (fun Z hl hG C hQ hr => by subst hl; subst hG; exact (tX0_lineUp C hQ hr k b1 b2 h1 h2 k).1 _ _ _ _ h)
theorem ysX0_lineUp : ra_YV yX0_lineUp cX0_lineUp 6 (some .int) 2 RX0 := ⟨⟨wd_4, wd_390, by decide, by decide, by decide⟩, wd_388, wd_389⟩
/-- TrunkRadio$State.talkerOf -/
def fX4_talkerOf (k : Nat) (b0 : Nat) (b1 : Nat) : Nat → Nat → Int32 → Int32 → ra_W → Option (Int32 × ra_W)
  | 0, _, _, _, _ => none
  | n + 1, L, v2, v3, w => match L with
    | 0 => fX4_talkerOf k b0 b1 n 1 v2 0 w
    | 1 => if (w b1 0) ≤ v3 then (some ((-9), w)) else (if ra_in v3 7 then if (w (b0 + 2) (ra_ix v3)) = 4 then (if (w (b1 + 3) (ra_ix v3)) = v2 then (some (v3, w)) else (fX4_talkerOf k b0 b1 n 2 v2 v3 w)) else (fX4_talkerOf k b0 b1 n 2 v2 v3 w) else none)
    | _ => fX4_talkerOf k b0 b1 n 1 v2 (v3 + 1) w
theorem fX4_talkerOf_0 (k : Nat) (b0 : Nat) (b1 : Nat) (n : Nat) (v2 : Int32) (v3 : Int32) (w : ra_W) : fX4_talkerOf k b0 b1 (n + 1) 0 v2 v3 w = (fX4_talkerOf k b0 b1 n 1 v2 0 w) := rfl
theorem fX4_talkerOf_1 (k : Nat) (b0 : Nat) (b1 : Nat) (n : Nat) (v2 : Int32) (v3 : Int32) (w : ra_W) : fX4_talkerOf k b0 b1 (n + 1) 1 v2 v3 w = (if (w b1 0) ≤ v3 then (some ((-9), w)) else (if ra_in v3 7 then if (w (b0 + 2) (ra_ix v3)) = 4 then (if (w (b1 + 3) (ra_ix v3)) = v2 then (some (v3, w)) else (fX4_talkerOf k b0 b1 n 2 v2 v3 w)) else (fX4_talkerOf k b0 b1 n 2 v2 v3 w) else none)) := rfl
theorem fX4_talkerOf_2 (k : Nat) (b0 : Nat) (b1 : Nat) (n : Nat) (v2 : Int32) (v3 : Int32) (w : ra_W) : fX4_talkerOf k b0 b1 (n + 1) 2 v2 v3 w = (fX4_talkerOf k b0 b1 n 1 v2 (v3 + 1) w) := rfl
def FX4_talkerOf (k : Nat) (b0 : Nat) (b1 : Nat) (v2 : Int32) (w : ra_W) : Option (Int32 × ra_W) := fX4_talkerOf k b0 b1 k 0 v2 0 w
def pX4_talkerOf_0 (Z : ra_Z) (r : Int32) (w1 : ra_W) (k : Nat) (b0 : Nat) (b1 : Nat) (n : Nat) : Prop := ∀ (v2 : Int32) (v3 : Int32) (w : ra_W), fX4_talkerOf k b0 b1 n 0 v2 v3 w = some (r, w1) → ra_J Z 4 0 [(0, .ref ((zG Z).1 b0)), (1, .ref ((zG Z).1 b1)), (2, .int v2)] [] w
def pX4_talkerOf_1 (Z : ra_Z) (r : Int32) (w1 : ra_W) (k : Nat) (b0 : Nat) (b1 : Nat) (n : Nat) : Prop := ∀ (v2 : Int32) (v3 : Int32) (w : ra_W), fX4_talkerOf k b0 b1 n 1 v2 v3 w = some (r, w1) → ra_J Z 4 2 [(0, .ref ((zG Z).1 b0)), (1, .ref ((zG Z).1 b1)), (2, .int v2), (3, .int v3)] [] w
def pX4_talkerOf_2 (Z : ra_Z) (r : Int32) (w1 : ra_W) (k : Nat) (b0 : Nat) (b1 : Nat) (n : Nat) : Prop := ∀ (v2 : Int32) (v3 : Int32) (w : ra_W), fX4_talkerOf k b0 b1 n 2 v2 v3 w = some (r, w1) → ra_J Z 4 32 [(0, .ref ((zG Z).1 b0)), (1, .ref ((zG Z).1 b1)), (2, .int v2), (3, .int v3)] [] w
set_option maxHeartbeats 4000000 in
theorem tX4_talkerOf_0 {Z : ra_Z} {r : Int32} {w1 : ra_W} (C : ra_C Z cX4_talkerOf 4 RX4 0 0) (hQ : ra_QI Z r w1) (hr : (zmt Z).sig.returnType = (some .int)) (k : Nat) (b0 : Nat) (b1 : Nat) (h0 : ra_S b0) (h1 : ra_N b1) (n : Nat) (ih1 : pX4_talkerOf_1 Z r w1 k b0 b1 n) : pX4_talkerOf_0 Z r w1 k b0 b1 (n + 1) := by
  intro v2 v3 w hf
  rw [fX4_talkerOf_0] at hf
  refine rg_iconst (pc := 0) (v := 0) C dX4_talkerOf_0 (by decide) ?_
  refine rg_istore_n (pc := 1) (lv' := [(0, .ref ((zG Z).1 b0)), (1, .ref ((zG Z).1 b1)), (2, .int v2), (3, .int 0)]) C [1, 2, 3, 0] rfl rfl (by decide) dX4_talkerOf_1 ?_
  exact ih1 _ _ _ hf
set_option maxHeartbeats 4000000 in
theorem tX4_talkerOf_1 {Z : ra_Z} {r : Int32} {w1 : ra_W} (C : ra_C Z cX4_talkerOf 4 RX4 0 0) (hQ : ra_QI Z r w1) (hr : (zmt Z).sig.returnType = (some .int)) (k : Nat) (b0 : Nat) (b1 : Nat) (h0 : ra_S b0) (h1 : ra_N b1) (n : Nat) (ih2 : pX4_talkerOf_2 Z r w1 k b0 b1 n) : pX4_talkerOf_1 Z r w1 k b0 b1 (n + 1) := by
  intro v2 v3 w hf
  rw [fX4_talkerOf_1] at hf
  refine rg_iload_n (pc := 2) C 3 rfl rfl dX4_talkerOf_2 ?_
  refine rg_aload_n (pc := 3) C 1 rfl rfl dX4_talkerOf_3 ?_
  refine rg_get (pc := 4) C b1 2 0 h1.1 (by decide) rfl inlX2 (by decide) wd_68 rfl dX4_talkerOf_4 ?_
  refine rg_icmp_ge (pc := 7) (tgt := 38) C dX4_talkerOf_7 (by decide) (fun c1 => ?_) (fun c1 => ?_)
  · replace hf := ra_t hf c1
    refine rg_bipush (pc := 38) (v := (-9)) C dX4_talkerOf_38 (by decide) ?_
    exact rg_iret (pc := 40) C hQ hr hf dX4_talkerOf_40
  · replace hf := ra_f hf c1
    refine rg_aload_n (pc := 10) C 0 rfl rfl dX4_talkerOf_10 ?_
    refine rg_get (pc := 11) C b0 4 1 h0.1 (by decide) rfl inlX4 (by decide) wd_133 rfl dX4_talkerOf_11 ?_
    refine rg_iload_n (pc := 14) C 3 rfl rfl dX4_talkerOf_14 ?_
    obtain ⟨g2, hf⟩ := ra_gd hf
    refine rg_iald (pc := 15) (j := (ra_ix v3)) C (b0 + 2) h0.2.2.1 rfl g2 dX4_talkerOf_15 ?_
    refine rg_iconst (pc := 16) (v := 4) C dX4_talkerOf_16 (by decide) ?_
    refine rg_icmp_ne (pc := 17) (tgt := 32) C dX4_talkerOf_17 (by decide) (fun c3 => ?_) (fun c3 => ?_)
    · replace hf := ra_f hf c3
      exact ih2 _ _ _ hf
    · replace hf := ra_t hf c3
      refine rg_aload_n (pc := 20) C 1 rfl rfl dX4_talkerOf_20 ?_
      refine rg_get (pc := 21) C b1 2 5 h1.1 (by decide) rfl inlX2 (by decide) wd_89 rfl dX4_talkerOf_21 ?_
      refine rg_iload_n (pc := 24) C 3 rfl rfl dX4_talkerOf_24 ?_
      refine rg_iald (pc := 25) (j := (ra_ix v3)) C (b1 + 3) h1.2.2.2.1 rfl g2 dX4_talkerOf_25 ?_
      refine rg_iload_n (pc := 26) C 2 rfl rfl dX4_talkerOf_26 ?_
      refine rg_icmp_ne (pc := 27) (tgt := 32) C dX4_talkerOf_27 (by decide) (fun c4 => ?_) (fun c4 => ?_)
      · replace hf := ra_f hf c4
        exact ih2 _ _ _ hf
      · replace hf := ra_t hf c4
        refine rg_iload_n (pc := 30) C 3 rfl rfl dX4_talkerOf_30 ?_
        exact rg_iret (pc := 31) C hQ hr hf dX4_talkerOf_31
set_option maxHeartbeats 4000000 in
theorem tX4_talkerOf_2 {Z : ra_Z} {r : Int32} {w1 : ra_W} (C : ra_C Z cX4_talkerOf 4 RX4 0 0) (hQ : ra_QI Z r w1) (hr : (zmt Z).sig.returnType = (some .int)) (k : Nat) (b0 : Nat) (b1 : Nat) (h0 : ra_S b0) (h1 : ra_N b1) (n : Nat) (ih1 : pX4_talkerOf_1 Z r w1 k b0 b1 n) : pX4_talkerOf_2 Z r w1 k b0 b1 (n + 1) := by
  intro v2 v3 w hf
  rw [fX4_talkerOf_2] at hf
  refine rg_iinc (pc := 32) (v := (v3 + 1)) (lv' := [(0, .ref ((zG Z).1 b0)), (1, .ref ((zG Z).1 b1)), (2, .int v2), (3, .int (v3 + 1))]) C 3 rfl [1, 2, 3, 0] (ra_ii (by decide)) rfl (by decide) dX4_talkerOf_32 ?_
  refine rg_goto (pc := 35) (tgt := 2) C dX4_talkerOf_35 (by decide) ?_
  exact ih1 _ _ _ hf
theorem tX4_talkerOf {Z : ra_Z} {r : Int32} {w1 : ra_W} (C : ra_C Z cX4_talkerOf 4 RX4 0 0) (hQ : ra_QI Z r w1) (hr : (zmt Z).sig.returnType = (some .int)) (k : Nat) (b0 : Nat) (b1 : Nat) (h0 : ra_S b0) (h1 : ra_N b1) : ∀ n : Nat, pX4_talkerOf_0 Z r w1 k b0 b1 n ∧ pX4_talkerOf_1 Z r w1 k b0 b1 n ∧ pX4_talkerOf_2 Z r w1 k b0 b1 n := by
  intro n
  induction n with
  | zero => exact ⟨(fun _ _ _ h => by cases h), (fun _ _ _ h => by cases h), (fun _ _ _ h => by cases h)⟩
  | succ n ih =>
    obtain ⟨ih0, ih1, ih2⟩ := ih
    exact ⟨tX4_talkerOf_0 C hQ hr k b0 b1 h0 h1 n ih1, tX4_talkerOf_1 C hQ hr k b0 b1 h0 h1 n ih2, tX4_talkerOf_2 C hQ hr k b0 b1 h0 h1 n ih1⟩
theorem kX4_talkerOf (l : Launch) (G : ra_G) (hj : ra_inj G) (k : Nat) (b0 : Nat) (b1 : Nat) (h0 : ra_S b0) (h1 : ra_N b1) (v2 : Int32) (w : ra_W) (r : Int32) (w1 : ra_W) (h : FX4_talkerOf k b0 b1 v2 w = some (r, w1)) : ra_MI l G yX4_talkerOf cX4_talkerOf 4 (some .int) 0 0 [.ref (G.1 b0), .ref (G.1 b1), .int v2] w r w1 :=
  ra_entryI (own := RX4) (by decide) rfl (Nat.le_of_ble_eq_true rfl) hj (fun Z hl hG C hQ hr => by subst hl; subst hG; exact (tX4_talkerOf C hQ hr k b0 b1 h0 h1 k).1 _ _ _ h)
theorem ysX4_talkerOf : ra_YV yX4_talkerOf cX4_talkerOf 4 (some .int) 2 RX4 := ⟨⟨wd_5, wd_400, by decide, by decide, by decide⟩, wd_398, wd_399⟩
/-- TrunkRadio$Air.sitesNeeded -/
def fX0_sitesNeeded (k : Nat) (b0 : Nat) (b1 : Nat) : Nat → Nat → Int32 → Int32 → Int32 → Int32 → ra_W → Option (Int32 × ra_W)
  | 0, _, _, _, _, _, _ => none
  | n + 1, L, v2, v3, v4, v5, w => match L with
    | 0 => if ra_in v2 7 then ra_bind (FX4_hasControl k b1 (1 - (w (b1 + 1) (ra_ix v2))) w) (fun r2 w3 => if r2 = 0 then (fX0_sitesNeeded k b0 b1 n 3 0 (w (b1 + 1) (ra_ix v2)) 0 0 w3) else (fX0_sitesNeeded k b0 b1 n 1 v2 (w (b1 + 1) (ra_ix v2)) (1 - (w (b1 + 1) (ra_ix v2))) 0 w3)) else none
    | 1 => if (w b0 0) ≤ v5 then (fX0_sitesNeeded k b0 b1 n 3 0 v3 0 0 w) else (if ra_in v5 7 then if (w (b1 + 1) (ra_ix v5)) = v4 then (if ra_in v2 7 then if (w (b0 + 3) (ra_ix v5)) = (w (b0 + 3) (ra_ix v2)) then (some (3, w)) else (fX0_sitesNeeded k b0 b1 n 2 v2 v3 v4 v5 w) else none) else (fX0_sitesNeeded k b0 b1 n 2 v2 v3 v4 v5 w) else none)
    | 2 => fX0_sitesNeeded k b0 b1 n 1 v2 v3 v4 (v5 + 1) w
    | _ => some ((1 <<< (v3 &&& 31)), w)
theorem fX0_sitesNeeded_0 (k : Nat) (b0 : Nat) (b1 : Nat) (n : Nat) (v2 : Int32) (v3 : Int32) (v4 : Int32) (v5 : Int32) (w : ra_W) : fX0_sitesNeeded k b0 b1 (n + 1) 0 v2 v3 v4 v5 w = (if ra_in v2 7 then ra_bind (FX4_hasControl k b1 (1 - (w (b1 + 1) (ra_ix v2))) w) (fun r2 w3 => if r2 = 0 then (fX0_sitesNeeded k b0 b1 n 3 0 (w (b1 + 1) (ra_ix v2)) 0 0 w3) else (fX0_sitesNeeded k b0 b1 n 1 v2 (w (b1 + 1) (ra_ix v2)) (1 - (w (b1 + 1) (ra_ix v2))) 0 w3)) else none) := rfl
theorem fX0_sitesNeeded_1 (k : Nat) (b0 : Nat) (b1 : Nat) (n : Nat) (v2 : Int32) (v3 : Int32) (v4 : Int32) (v5 : Int32) (w : ra_W) : fX0_sitesNeeded k b0 b1 (n + 1) 1 v2 v3 v4 v5 w = (if (w b0 0) ≤ v5 then (fX0_sitesNeeded k b0 b1 n 3 0 v3 0 0 w) else (if ra_in v5 7 then if (w (b1 + 1) (ra_ix v5)) = v4 then (if ra_in v2 7 then if (w (b0 + 3) (ra_ix v5)) = (w (b0 + 3) (ra_ix v2)) then (some (3, w)) else (fX0_sitesNeeded k b0 b1 n 2 v2 v3 v4 v5 w) else none) else (fX0_sitesNeeded k b0 b1 n 2 v2 v3 v4 v5 w) else none)) := rfl
theorem fX0_sitesNeeded_2 (k : Nat) (b0 : Nat) (b1 : Nat) (n : Nat) (v2 : Int32) (v3 : Int32) (v4 : Int32) (v5 : Int32) (w : ra_W) : fX0_sitesNeeded k b0 b1 (n + 1) 2 v2 v3 v4 v5 w = (fX0_sitesNeeded k b0 b1 n 1 v2 v3 v4 (v5 + 1) w) := rfl
theorem fX0_sitesNeeded_3 (k : Nat) (b0 : Nat) (b1 : Nat) (n : Nat) (v2 : Int32) (v3 : Int32) (v4 : Int32) (v5 : Int32) (w : ra_W) : fX0_sitesNeeded k b0 b1 (n + 1) 3 v2 v3 v4 v5 w = (some ((1 <<< (v3 &&& 31)), w)) := rfl
def FX0_sitesNeeded (k : Nat) (b0 : Nat) (b1 : Nat) (v2 : Int32) (w : ra_W) : Option (Int32 × ra_W) := fX0_sitesNeeded k b0 b1 k 0 v2 0 0 0 w
def pX0_sitesNeeded_0 (Z : ra_Z) (r : Int32) (w1 : ra_W) (k : Nat) (b0 : Nat) (b1 : Nat) (n : Nat) : Prop := ∀ (v2 : Int32) (v3 : Int32) (v4 : Int32) (v5 : Int32) (w : ra_W), fX0_sitesNeeded k b0 b1 n 0 v2 v3 v4 v5 w = some (r, w1) → ra_J Z 6 0 [(0, .ref ((zG Z).1 b0)), (1, .ref ((zG Z).1 b1)), (2, .int v2)] [] w
def pX0_sitesNeeded_1 (Z : ra_Z) (r : Int32) (w1 : ra_W) (k : Nat) (b0 : Nat) (b1 : Nat) (n : Nat) : Prop := ∀ (v2 : Int32) (v3 : Int32) (v4 : Int32) (v5 : Int32) (w : ra_W), fX0_sitesNeeded k b0 b1 n 1 v2 v3 v4 v5 w = some (r, w1) → ra_J Z 6 24 [(0, .ref ((zG Z).1 b0)), (1, .ref ((zG Z).1 b1)), (2, .int v2), (3, .int v3), (4, .int v4), (5, .int v5)] [] w
def pX0_sitesNeeded_2 (Z : ra_Z) (r : Int32) (w1 : ra_W) (k : Nat) (b0 : Nat) (b1 : Nat) (n : Nat) : Prop := ∀ (v2 : Int32) (v3 : Int32) (v4 : Int32) (v5 : Int32) (w : ra_W), fX0_sitesNeeded k b0 b1 n 2 v2 v3 v4 v5 w = some (r, w1) → ra_J Z 6 63 [(0, .ref ((zG Z).1 b0)), (1, .ref ((zG Z).1 b1)), (2, .int v2), (3, .int v3), (4, .int v4), (5, .int v5)] [] w
def pX0_sitesNeeded_3 (Z : ra_Z) (r : Int32) (w1 : ra_W) (k : Nat) (b0 : Nat) (b1 : Nat) (n : Nat) : Prop := ∀ (v2 : Int32) (v3 : Int32) (v4 : Int32) (v5 : Int32) (w : ra_W), fX0_sitesNeeded k b0 b1 n 3 v2 v3 v4 v5 w = some (r, w1) → ra_J Z 6 69 [(0, .ref ((zG Z).1 b0)), (1, .ref ((zG Z).1 b1)), (3, .int v3)] [] w
set_option maxHeartbeats 4000000 in
theorem tX0_sitesNeeded_0 {Z : ra_Z} {r : Int32} {w1 : ra_W} (C : ra_C Z cX0_sitesNeeded 6 RX0 1 21) (hQ : ra_QI Z r w1) (hr : (zmt Z).sig.returnType = (some .int)) (k : Nat) (b0 : Nat) (b1 : Nat) (h0 : ra_N b0) (h1 : ra_S b1) (n : Nat) (ih1 : pX0_sitesNeeded_1 Z r w1 k b0 b1 n) (ih3 : pX0_sitesNeeded_3 Z r w1 k b0 b1 n) : pX0_sitesNeeded_0 Z r w1 k b0 b1 (n + 1) := by
  intro v2 v3 v4 v5 w hf
  rw [fX0_sitesNeeded_0] at hf
  refine rg_aload_n (pc := 0) C 1 rfl rfl dX0_sitesNeeded_0 ?_
  refine rg_get (pc := 1) C b1 4 0 h1.1 (by decide) rfl inlX4 (by decide) wd_131 rfl dX0_sitesNeeded_1 ?_
  refine rg_iload_n (pc := 4) C 2 rfl rfl dX0_sitesNeeded_4 ?_
  obtain ⟨g1, hf⟩ := ra_gd hf
  refine rg_iald (pc := 5) (j := (ra_ix v2)) C (b1 + 1) h1.2.1 rfl g1 dX0_sitesNeeded_5 ?_
  refine rg_istore_n (pc := 6) (lv' := [(0, .ref ((zG Z).1 b0)), (1, .ref ((zG Z).1 b1)), (2, .int v2), (3, .int (w (b1 + 1) (ra_ix v2)))]) C [1, 2, 3, 0] rfl rfl (by decide) dX0_sitesNeeded_6 ?_
  refine rg_iconst (pc := 7) (v := 1) C dX0_sitesNeeded_7 (by decide) ?_
  refine rg_iload_n (pc := 8) C 3 rfl rfl dX0_sitesNeeded_8 ?_
  refine rg_isub (pc := 9) C dX0_sitesNeeded_9 ?_
  refine rg_istore (pc := 10) (lv' := [(0, .ref ((zG Z).1 b0)), (1, .ref ((zG Z).1 b1)), (2, .int v2), (3, .int (w (b1 + 1) (ra_ix v2))), (4, .int (1 - (w (b1 + 1) (ra_ix v2))))]) C [1, 2, 3, 4, 0] rfl (by decide) dX0_sitesNeeded_10 ?_
  refine rg_aload_n (pc := 12) C 1 rfl rfl dX0_sitesNeeded_12 ?_
  refine rg_iload (pc := 13) C 4 rfl dX0_sitesNeeded_13 ?_
  obtain ⟨r2, w3, e4, hf⟩ := ra_bd hf
  refine rg_callVI (pc := 15) (As := [.int (1 - (w (b1 + 1) (ra_ix v2)))]) (st := []) C (kX4_hasControl (zl Z) (zG Z) C.hj k b1 h1 _ _ _ _ e4) h1.1 (by decide) rfl ysX4_hasControl rfl wd_354 ⟨Nat.le_of_ble_eq_true rfl, Nat.le_of_ble_eq_true rfl⟩ rfl (Nat.le_of_ble_eq_true rfl) dX0_sitesNeeded_15 ?_
  refine rg_if_eq (pc := 18) (tgt := 69) C dX0_sitesNeeded_18 (by decide) (fun c5 => ?_) (fun c5 => ?_)
  · replace hf := ra_t hf c5
    refine rg_sub [0, 1, 3] rfl ?_
    exact ih3 _ _ _ _ _ hf
  · replace hf := ra_f hf c5
    refine rg_iconst (pc := 21) (v := 0) C dX0_sitesNeeded_21 (by decide) ?_
    refine rg_istore (pc := 22) (lv' := [(0, .ref ((zG Z).1 b0)), (1, .ref ((zG Z).1 b1)), (2, .int v2), (3, .int (w (b1 + 1) (ra_ix v2))), (4, .int (1 - (w (b1 + 1) (ra_ix v2)))), (5, .int 0)]) C [1, 2, 3, 4, 5, 0] rfl (by decide) dX0_sitesNeeded_22 ?_
    exact ih1 _ _ _ _ _ hf
set_option maxHeartbeats 4000000 in
theorem tX0_sitesNeeded_1 {Z : ra_Z} {r : Int32} {w1 : ra_W} (C : ra_C Z cX0_sitesNeeded 6 RX0 1 21) (hQ : ra_QI Z r w1) (hr : (zmt Z).sig.returnType = (some .int)) (k : Nat) (b0 : Nat) (b1 : Nat) (h0 : ra_N b0) (h1 : ra_S b1) (n : Nat) (ih2 : pX0_sitesNeeded_2 Z r w1 k b0 b1 n) (ih3 : pX0_sitesNeeded_3 Z r w1 k b0 b1 n) : pX0_sitesNeeded_1 Z r w1 k b0 b1 (n + 1) := by
  intro v2 v3 v4 v5 w hf
  rw [fX0_sitesNeeded_1] at hf
  refine rg_iload (pc := 24) C 5 rfl dX0_sitesNeeded_24 ?_
  refine rg_aload_n (pc := 26) C 0 rfl rfl dX0_sitesNeeded_26 ?_
  refine rg_get (pc := 27) C b0 2 0 h0.1 (by decide) rfl inlX2 (by decide) wd_66 rfl dX0_sitesNeeded_27 ?_
  refine rg_icmp_ge (pc := 30) (tgt := 69) C dX0_sitesNeeded_30 (by decide) (fun c1 => ?_) (fun c1 => ?_)
  · replace hf := ra_t hf c1
    refine rg_sub [0, 1, 3] rfl ?_
    exact ih3 _ _ _ _ _ hf
  · replace hf := ra_f hf c1
    refine rg_aload_n (pc := 33) C 1 rfl rfl dX0_sitesNeeded_33 ?_
    refine rg_get (pc := 34) C b1 4 0 h1.1 (by decide) rfl inlX4 (by decide) wd_131 rfl dX0_sitesNeeded_34 ?_
    refine rg_iload (pc := 37) C 5 rfl dX0_sitesNeeded_37 ?_
    obtain ⟨g2, hf⟩ := ra_gd hf
    refine rg_iald (pc := 39) (j := (ra_ix v5)) C (b1 + 1) h1.2.1 rfl g2 dX0_sitesNeeded_39 ?_
    refine rg_iload (pc := 40) C 4 rfl dX0_sitesNeeded_40 ?_
    refine rg_icmp_ne (pc := 42) (tgt := 63) C dX0_sitesNeeded_42 (by decide) (fun c3 => ?_) (fun c3 => ?_)
    · replace hf := ra_f hf c3
      exact ih2 _ _ _ _ _ hf
    · replace hf := ra_t hf c3
      refine rg_aload_n (pc := 45) C 0 rfl rfl dX0_sitesNeeded_45 ?_
      refine rg_get (pc := 46) C b0 2 5 h0.1 (by decide) rfl inlX2 (by decide) wd_87 rfl dX0_sitesNeeded_46 ?_
      refine rg_iload (pc := 49) C 5 rfl dX0_sitesNeeded_49 ?_
      refine rg_iald (pc := 51) (j := (ra_ix v5)) C (b0 + 3) h0.2.2.2.1 rfl g2 dX0_sitesNeeded_51 ?_
      refine rg_aload_n (pc := 52) C 0 rfl rfl dX0_sitesNeeded_52 ?_
      refine rg_get (pc := 53) C b0 2 5 h0.1 (by decide) rfl inlX2 (by decide) wd_87 rfl dX0_sitesNeeded_53 ?_
      refine rg_iload_n (pc := 56) C 2 rfl rfl dX0_sitesNeeded_56 ?_
      obtain ⟨g4, hf⟩ := ra_gd hf
      refine rg_iald (pc := 57) (j := (ra_ix v2)) C (b0 + 3) h0.2.2.2.1 rfl g4 dX0_sitesNeeded_57 ?_
      refine rg_icmp_ne (pc := 58) (tgt := 63) C dX0_sitesNeeded_58 (by decide) (fun c5 => ?_) (fun c5 => ?_)
      · replace hf := ra_f hf c5
        exact ih2 _ _ _ _ _ hf
      · replace hf := ra_t hf c5
        refine rg_iconst (pc := 61) (v := 3) C dX0_sitesNeeded_61 (by decide) ?_
        exact rg_iret (pc := 62) C hQ hr hf dX0_sitesNeeded_62
set_option maxHeartbeats 4000000 in
theorem tX0_sitesNeeded_2 {Z : ra_Z} {r : Int32} {w1 : ra_W} (C : ra_C Z cX0_sitesNeeded 6 RX0 1 21) (hQ : ra_QI Z r w1) (hr : (zmt Z).sig.returnType = (some .int)) (k : Nat) (b0 : Nat) (b1 : Nat) (h0 : ra_N b0) (h1 : ra_S b1) (n : Nat) (ih1 : pX0_sitesNeeded_1 Z r w1 k b0 b1 n) : pX0_sitesNeeded_2 Z r w1 k b0 b1 (n + 1) := by
  intro v2 v3 v4 v5 w hf
  rw [fX0_sitesNeeded_2] at hf
  refine rg_iinc (pc := 63) (v := (v5 + 1)) (lv' := [(0, .ref ((zG Z).1 b0)), (1, .ref ((zG Z).1 b1)), (2, .int v2), (3, .int v3), (4, .int v4), (5, .int (v5 + 1))]) C 5 rfl [1, 2, 3, 4, 5, 0] (ra_ii (by decide)) rfl (by decide) dX0_sitesNeeded_63 ?_
  refine rg_goto (pc := 66) (tgt := 24) C dX0_sitesNeeded_66 (by decide) ?_
  exact ih1 _ _ _ _ _ hf
set_option maxHeartbeats 4000000 in
theorem tX0_sitesNeeded_3 {Z : ra_Z} {r : Int32} {w1 : ra_W} (C : ra_C Z cX0_sitesNeeded 6 RX0 1 21) (hQ : ra_QI Z r w1) (hr : (zmt Z).sig.returnType = (some .int)) (k : Nat) (b0 : Nat) (b1 : Nat) (h0 : ra_N b0) (h1 : ra_S b1) (n : Nat) : pX0_sitesNeeded_3 Z r w1 k b0 b1 (n + 1) := by
  intro v2 v3 v4 v5 w hf
  rw [fX0_sitesNeeded_3] at hf
  refine rg_iconst (pc := 69) (v := 1) C dX0_sitesNeeded_69 (by decide) ?_
  refine rg_iload_n (pc := 70) C 2 rfl rfl dX0_sitesNeeded_70 ?_
  refine rg_ishl (pc := 71) C dX0_sitesNeeded_71 ?_
  exact rg_iret (pc := 72) C hQ hr hf dX0_sitesNeeded_72
theorem tX0_sitesNeeded {Z : ra_Z} {r : Int32} {w1 : ra_W} (C : ra_C Z cX0_sitesNeeded 6 RX0 1 21) (hQ : ra_QI Z r w1) (hr : (zmt Z).sig.returnType = (some .int)) (k : Nat) (b0 : Nat) (b1 : Nat) (h0 : ra_N b0) (h1 : ra_S b1) : ∀ n : Nat, pX0_sitesNeeded_0 Z r w1 k b0 b1 n ∧ pX0_sitesNeeded_1 Z r w1 k b0 b1 n ∧ pX0_sitesNeeded_2 Z r w1 k b0 b1 n ∧ pX0_sitesNeeded_3 Z r w1 k b0 b1 n := by
  intro n
  induction n with
  | zero => exact ⟨(fun _ _ _ _ _ h => by cases h), (fun _ _ _ _ _ h => by cases h), (fun _ _ _ _ _ h => by cases h), (fun _ _ _ _ _ h => by cases h)⟩
  | succ n ih =>
    obtain ⟨ih0, ih1, ih2, ih3⟩ := ih
    exact ⟨tX0_sitesNeeded_0 C hQ hr k b0 b1 h0 h1 n ih1 ih3, tX0_sitesNeeded_1 C hQ hr k b0 b1 h0 h1 n ih2 ih3, tX0_sitesNeeded_2 C hQ hr k b0 b1 h0 h1 n ih1, tX0_sitesNeeded_3 C hQ hr k b0 b1 h0 h1 n⟩
theorem kX0_sitesNeeded (l : Launch) (G : ra_G) (hj : ra_inj G) (k : Nat) (b0 : Nat) (b1 : Nat) (h0 : ra_N b0) (h1 : ra_S b1) (v2 : Int32) (w : ra_W) (r : Int32) (w1 : ra_W) (h : FX0_sitesNeeded k b0 b1 v2 w = some (r, w1)) : ra_MI l G yX0_sitesNeeded cX0_sitesNeeded 6 (some .int) 1 21 [.ref (G.1 b0), .ref (G.1 b1), .int v2] w r w1 :=
  ra_entryI (own := RX0) (by decide) rfl (Nat.le_of_ble_eq_true rfl) hj (fun Z hl hG C hQ hr => by subst hl; subst hG; exact (tX0_sitesNeeded C hQ hr k b0 b1 h0 h1 k).1 _ _ _ _ _ h)
theorem ysX0_sitesNeeded : ra_YS yX0_sitesNeeded cX0_sitesNeeded 6 (some .int) 3 := ⟨⟨wd_4, wd_403, by decide, by decide, by decide⟩, wd_402⟩
/-- TrunkRadio$State.fullSites -/
def fX4_fullSites (k : Nat) (b0 : Nat) (b1 : Nat) : Nat → Nat → Int32 → Int32 → Int32 → Int32 → Int32 → ra_W → Option (Int32 × ra_W)
  | 0, _, _, _, _, _, _, _ => none
  | n + 1, L, v2, v3, v4, s0, s1, w => match L with
    | 0 => fX4_fullSites k b0 b1 n 1 (w (b1 + 1) 0) (w (b1 + 1) 1) 0 0 0 w
    | 1 => if (w b1 0) ≤ v4 then (if 1 ≤ v2 then (fX4_fullSites k b0 b1 n 2 0 v3 0 0 0 w) else (fX4_fullSites k b0 b1 n 2 0 v3 0 1 0 w)) else (if ra_in v4 7 then fX4_fullSites k b0 b1 n 1 (v2 - ((w (b0 + 5) (ra_ix v4)) &&& 1)) (v3 - (((w (b0 + 5) (ra_ix v4)) >>> (1 &&& 31)) &&& 1)) (v4 + 1) 0 0 w else none)
    | 2 => if 1 ≤ v3 then (fX4_fullSites k b0 b1 n 3 0 0 0 0 s0 w) else (fX4_fullSites k b0 b1 n 3 0 0 0 2 s0 w)
    | _ => some ((s1 ||| s0), w)
theorem fX4_fullSites_0 (k : Nat) (b0 : Nat) (b1 : Nat) (n : Nat) (v2 : Int32) (v3 : Int32) (v4 : Int32) (s0 : Int32) (s1 : Int32) (w : ra_W) : fX4_fullSites k b0 b1 (n + 1) 0 v2 v3 v4 s0 s1 w = (fX4_fullSites k b0 b1 n 1 (w (b1 + 1) 0) (w (b1 + 1) 1) 0 0 0 w) := rfl
theorem fX4_fullSites_1 (k : Nat) (b0 : Nat) (b1 : Nat) (n : Nat) (v2 : Int32) (v3 : Int32) (v4 : Int32) (s0 : Int32) (s1 : Int32) (w : ra_W) : fX4_fullSites k b0 b1 (n + 1) 1 v2 v3 v4 s0 s1 w = (if (w b1 0) ≤ v4 then (if 1 ≤ v2 then (fX4_fullSites k b0 b1 n 2 0 v3 0 0 0 w) else (fX4_fullSites k b0 b1 n 2 0 v3 0 1 0 w)) else (if ra_in v4 7 then fX4_fullSites k b0 b1 n 1 (v2 - ((w (b0 + 5) (ra_ix v4)) &&& 1)) (v3 - (((w (b0 + 5) (ra_ix v4)) >>> (1 &&& 31)) &&& 1)) (v4 + 1) 0 0 w else none)) := rfl
theorem fX4_fullSites_2 (k : Nat) (b0 : Nat) (b1 : Nat) (n : Nat) (v2 : Int32) (v3 : Int32) (v4 : Int32) (s0 : Int32) (s1 : Int32) (w : ra_W) : fX4_fullSites k b0 b1 (n + 1) 2 v2 v3 v4 s0 s1 w = (if 1 ≤ v3 then (fX4_fullSites k b0 b1 n 3 0 0 0 0 s0 w) else (fX4_fullSites k b0 b1 n 3 0 0 0 2 s0 w)) := rfl
theorem fX4_fullSites_3 (k : Nat) (b0 : Nat) (b1 : Nat) (n : Nat) (v2 : Int32) (v3 : Int32) (v4 : Int32) (s0 : Int32) (s1 : Int32) (w : ra_W) : fX4_fullSites k b0 b1 (n + 1) 3 v2 v3 v4 s0 s1 w = (some ((s1 ||| s0), w)) := rfl
def FX4_fullSites (k : Nat) (b0 : Nat) (b1 : Nat)  (w : ra_W) : Option (Int32 × ra_W) := fX4_fullSites k b0 b1 k 0 0 0 0 0 0 w
def pX4_fullSites_0 (Z : ra_Z) (r : Int32) (w1 : ra_W) (k : Nat) (b0 : Nat) (b1 : Nat) (n : Nat) : Prop := ∀ (v2 : Int32) (v3 : Int32) (v4 : Int32) (s0 : Int32) (s1 : Int32) (w : ra_W), fX4_fullSites k b0 b1 n 0 v2 v3 v4 s0 s1 w = some (r, w1) → ra_J Z 5 0 [(0, .ref ((zG Z).1 b0)), (1, .ref ((zG Z).1 b1))] [] w
def pX4_fullSites_1 (Z : ra_Z) (r : Int32) (w1 : ra_W) (k : Nat) (b0 : Nat) (b1 : Nat) (n : Nat) : Prop := ∀ (v2 : Int32) (v3 : Int32) (v4 : Int32) (s0 : Int32) (s1 : Int32) (w : ra_W), fX4_fullSites k b0 b1 n 1 v2 v3 v4 s0 s1 w = some (r, w1) → ra_J Z 5 17 [(0, .ref ((zG Z).1 b0)), (1, .ref ((zG Z).1 b1)), (2, .int v2), (3, .int v3), (4, .int v4)] [] w
def pX4_fullSites_2 (Z : ra_Z) (r : Int32) (w1 : ra_W) (k : Nat) (b0 : Nat) (b1 : Nat) (n : Nat) : Prop := ∀ (v2 : Int32) (v3 : Int32) (v4 : Int32) (s0 : Int32) (s1 : Int32) (w : ra_W), fX4_fullSites k b0 b1 n 2 v2 v3 v4 s0 s1 w = some (r, w1) → ra_J Z 5 68 [(0, .ref ((zG Z).1 b0)), (1, .ref ((zG Z).1 b1)), (3, .int v3)] [.int s0] w
def pX4_fullSites_3 (Z : ra_Z) (r : Int32) (w1 : ra_W) (k : Nat) (b0 : Nat) (b1 : Nat) (n : Nat) : Prop := ∀ (v2 : Int32) (v3 : Int32) (v4 : Int32) (s0 : Int32) (s1 : Int32) (w : ra_W), fX4_fullSites k b0 b1 n 3 v2 v3 v4 s0 s1 w = some (r, w1) → ra_J Z 5 78 [(0, .ref ((zG Z).1 b0)), (1, .ref ((zG Z).1 b1))] [.int s0, .int s1] w
set_option maxHeartbeats 4000000 in
theorem tX4_fullSites_0 {Z : ra_Z} {r : Int32} {w1 : ra_W} (C : ra_C Z cX4_fullSites 5 RX4 0 0) (hQ : ra_QI Z r w1) (hr : (zmt Z).sig.returnType = (some .int)) (k : Nat) (b0 : Nat) (b1 : Nat) (h0 : ra_S b0) (h1 : ra_N b1) (n : Nat) (ih1 : pX4_fullSites_1 Z r w1 k b0 b1 n) : pX4_fullSites_0 Z r w1 k b0 b1 (n + 1) := by
  intro v2 v3 v4 s0 s1 w hf
  rw [fX4_fullSites_0] at hf
  refine rg_aload_n (pc := 0) C 1 rfl rfl dX4_fullSites_0 ?_
  refine rg_get (pc := 1) C b1 2 3 h1.1 (by decide) rfl inlX2 (by decide) wd_80 rfl dX4_fullSites_1 ?_
  refine rg_iconst (pc := 4) (v := 0) C dX4_fullSites_4 (by decide) ?_
  refine rg_iald (pc := 5) (j := 0) C (b1 + 1) h1.2.1 (by decide) (by decide) dX4_fullSites_5 ?_
  refine rg_istore_n (pc := 6) (lv' := [(0, .ref ((zG Z).1 b0)), (1, .ref ((zG Z).1 b1)), (2, .int (w (b1 + 1) 0))]) C [1, 2, 0] rfl rfl (by decide) dX4_fullSites_6 ?_
  refine rg_aload_n (pc := 7) C 1 rfl rfl dX4_fullSites_7 ?_
  refine rg_get (pc := 8) C b1 2 3 h1.1 (by decide) rfl inlX2 (by decide) wd_80 rfl dX4_fullSites_8 ?_
  refine rg_iconst (pc := 11) (v := 1) C dX4_fullSites_11 (by decide) ?_
  refine rg_iald (pc := 12) (j := 1) C (b1 + 1) h1.2.1 (by decide) (by decide) dX4_fullSites_12 ?_
  refine rg_istore_n (pc := 13) (lv' := [(0, .ref ((zG Z).1 b0)), (1, .ref ((zG Z).1 b1)), (2, .int (w (b1 + 1) 0)), (3, .int (w (b1 + 1) 1))]) C [1, 2, 3, 0] rfl rfl (by decide) dX4_fullSites_13 ?_
  refine rg_iconst (pc := 14) (v := 0) C dX4_fullSites_14 (by decide) ?_
  refine rg_istore (pc := 15) (lv' := [(0, .ref ((zG Z).1 b0)), (1, .ref ((zG Z).1 b1)), (2, .int (w (b1 + 1) 0)), (3, .int (w (b1 + 1) 1)), (4, .int 0)]) C [1, 2, 3, 4, 0] rfl (by decide) dX4_fullSites_15 ?_
  exact ih1 _ _ _ _ _ _ hf
set_option maxHeartbeats 4000000 in
theorem tX4_fullSites_1 {Z : ra_Z} {r : Int32} {w1 : ra_W} (C : ra_C Z cX4_fullSites 5 RX4 0 0) (hQ : ra_QI Z r w1) (hr : (zmt Z).sig.returnType = (some .int)) (k : Nat) (b0 : Nat) (b1 : Nat) (h0 : ra_S b0) (h1 : ra_N b1) (n : Nat) (ih1 : pX4_fullSites_1 Z r w1 k b0 b1 n) (ih2 : pX4_fullSites_2 Z r w1 k b0 b1 n) : pX4_fullSites_1 Z r w1 k b0 b1 (n + 1) := by
  intro v2 v3 v4 s0 s1 w hf
  rw [fX4_fullSites_1] at hf
  refine rg_iload (pc := 17) C 4 rfl dX4_fullSites_17 ?_
  refine rg_aload_n (pc := 19) C 1 rfl rfl dX4_fullSites_19 ?_
  refine rg_get (pc := 20) C b1 2 0 h1.1 (by decide) rfl inlX2 (by decide) wd_68 rfl dX4_fullSites_20 ?_
  refine rg_icmp_ge (pc := 23) (tgt := 58) C dX4_fullSites_23 (by decide) (fun c1 => ?_) (fun c1 => ?_)
  · replace hf := ra_t hf c1
    refine rg_iload_n (pc := 58) C 2 rfl rfl dX4_fullSites_58 ?_
    refine rg_iconst (pc := 59) (v := 1) C dX4_fullSites_59 (by decide) ?_
    refine rg_icmp_ge (pc := 60) (tgt := 67) C dX4_fullSites_60 (by decide) (fun c2 => ?_) (fun c2 => ?_)
    · replace hf := ra_t hf c2
      refine rg_iconst (pc := 67) (v := 0) C dX4_fullSites_67 (by decide) ?_
      refine rg_sub [0, 1, 3] rfl ?_
      exact ih2 _ _ _ _ _ _ hf
    · replace hf := ra_f hf c2
      refine rg_iconst (pc := 63) (v := 1) C dX4_fullSites_63 (by decide) ?_
      refine rg_goto (pc := 64) (tgt := 68) C dX4_fullSites_64 (by decide) ?_
      refine rg_sub [0, 1, 3] rfl ?_
      exact ih2 _ _ _ _ _ _ hf
  · replace hf := ra_f hf c1
    refine rg_iload_n (pc := 26) C 2 rfl rfl dX4_fullSites_26 ?_
    refine rg_aload_n (pc := 27) C 0 rfl rfl dX4_fullSites_27 ?_
    refine rg_get (pc := 28) C b0 4 4 h0.1 (by decide) rfl inlX4 (by decide) wd_142 rfl dX4_fullSites_28 ?_
    refine rg_iload (pc := 31) C 4 rfl dX4_fullSites_31 ?_
    obtain ⟨g3, hf⟩ := ra_gd hf
    refine rg_iald (pc := 33) (j := (ra_ix v4)) C (b0 + 5) h0.2.2.2.2.2.1 rfl g3 dX4_fullSites_33 ?_
    refine rg_iconst (pc := 34) (v := 1) C dX4_fullSites_34 (by decide) ?_
    refine rg_iand (pc := 35) C dX4_fullSites_35 ?_
    refine rg_isub (pc := 36) C dX4_fullSites_36 ?_
    refine rg_istore_n (pc := 37) (lv' := [(0, .ref ((zG Z).1 b0)), (1, .ref ((zG Z).1 b1)), (2, .int (v2 - ((w (b0 + 5) (ra_ix v4)) &&& 1))), (3, .int v3), (4, .int v4)]) C [1, 2, 0, 3, 4] rfl rfl (by decide) dX4_fullSites_37 ?_
    refine rg_iload_n (pc := 38) C 3 rfl rfl dX4_fullSites_38 ?_
    refine rg_aload_n (pc := 39) C 0 rfl rfl dX4_fullSites_39 ?_
    refine rg_get (pc := 40) C b0 4 4 h0.1 (by decide) rfl inlX4 (by decide) wd_142 rfl dX4_fullSites_40 ?_
    refine rg_iload (pc := 43) C 4 rfl dX4_fullSites_43 ?_
    refine rg_iald (pc := 45) (j := (ra_ix v4)) C (b0 + 5) h0.2.2.2.2.2.1 rfl g3 dX4_fullSites_45 ?_
    refine rg_iconst (pc := 46) (v := 1) C dX4_fullSites_46 (by decide) ?_
    refine rg_ishr (pc := 47) C dX4_fullSites_47 ?_
    refine rg_iconst (pc := 48) (v := 1) C dX4_fullSites_48 (by decide) ?_
    refine rg_iand (pc := 49) C dX4_fullSites_49 ?_
    refine rg_isub (pc := 50) C dX4_fullSites_50 ?_
    refine rg_istore_n (pc := 51) (lv' := [(0, .ref ((zG Z).1 b0)), (1, .ref ((zG Z).1 b1)), (2, .int (v2 - ((w (b0 + 5) (ra_ix v4)) &&& 1))), (3, .int (v3 - (((w (b0 + 5) (ra_ix v4)) >>> (1 &&& 31)) &&& 1))), (4, .int v4)]) C [1, 2, 3, 0, 4] rfl rfl (by decide) dX4_fullSites_51 ?_
    refine rg_iinc (pc := 52) (v := (v4 + 1)) (lv' := [(0, .ref ((zG Z).1 b0)), (1, .ref ((zG Z).1 b1)), (2, .int (v2 - ((w (b0 + 5) (ra_ix v4)) &&& 1))), (3, .int (v3 - (((w (b0 + 5) (ra_ix v4)) >>> (1 &&& 31)) &&& 1))), (4, .int (v4 + 1))]) C 4 rfl [1, 2, 3, 4, 0] (ra_ii (by decide)) rfl (by decide) dX4_fullSites_52 ?_
    refine rg_goto (pc := 55) (tgt := 17) C dX4_fullSites_55 (by decide) ?_
    exact ih1 _ _ _ _ _ _ hf
set_option maxHeartbeats 4000000 in
theorem tX4_fullSites_2 {Z : ra_Z} {r : Int32} {w1 : ra_W} (C : ra_C Z cX4_fullSites 5 RX4 0 0) (hQ : ra_QI Z r w1) (hr : (zmt Z).sig.returnType = (some .int)) (k : Nat) (b0 : Nat) (b1 : Nat) (h0 : ra_S b0) (h1 : ra_N b1) (n : Nat) (ih3 : pX4_fullSites_3 Z r w1 k b0 b1 n) : pX4_fullSites_2 Z r w1 k b0 b1 (n + 1) := by
  intro v2 v3 v4 s0 s1 w hf
  rw [fX4_fullSites_2] at hf
  refine rg_iload_n (pc := 68) C 2 rfl rfl dX4_fullSites_68 ?_
  refine rg_iconst (pc := 69) (v := 1) C dX4_fullSites_69 (by decide) ?_
  refine rg_icmp_ge (pc := 70) (tgt := 77) C dX4_fullSites_70 (by decide) (fun c1 => ?_) (fun c1 => ?_)
  · replace hf := ra_t hf c1
    refine rg_iconst (pc := 77) (v := 0) C dX4_fullSites_77 (by decide) ?_
    refine rg_sub [0, 1] rfl ?_
    exact ih3 _ _ _ _ _ _ hf
  · replace hf := ra_f hf c1
    refine rg_iconst (pc := 73) (v := 2) C dX4_fullSites_73 (by decide) ?_
    refine rg_goto (pc := 74) (tgt := 78) C dX4_fullSites_74 (by decide) ?_
    refine rg_sub [0, 1] rfl ?_
    exact ih3 _ _ _ _ _ _ hf
set_option maxHeartbeats 4000000 in
theorem tX4_fullSites_3 {Z : ra_Z} {r : Int32} {w1 : ra_W} (C : ra_C Z cX4_fullSites 5 RX4 0 0) (hQ : ra_QI Z r w1) (hr : (zmt Z).sig.returnType = (some .int)) (k : Nat) (b0 : Nat) (b1 : Nat) (h0 : ra_S b0) (h1 : ra_N b1) (n : Nat) : pX4_fullSites_3 Z r w1 k b0 b1 (n + 1) := by
  intro v2 v3 v4 s0 s1 w hf
  rw [fX4_fullSites_3] at hf
  refine rg_ior (pc := 78) C dX4_fullSites_78 ?_
  exact rg_iret (pc := 79) C hQ hr hf dX4_fullSites_79
theorem tX4_fullSites {Z : ra_Z} {r : Int32} {w1 : ra_W} (C : ra_C Z cX4_fullSites 5 RX4 0 0) (hQ : ra_QI Z r w1) (hr : (zmt Z).sig.returnType = (some .int)) (k : Nat) (b0 : Nat) (b1 : Nat) (h0 : ra_S b0) (h1 : ra_N b1) : ∀ n : Nat, pX4_fullSites_0 Z r w1 k b0 b1 n ∧ pX4_fullSites_1 Z r w1 k b0 b1 n ∧ pX4_fullSites_2 Z r w1 k b0 b1 n ∧ pX4_fullSites_3 Z r w1 k b0 b1 n := by
  intro n
  induction n with
  | zero => exact ⟨(fun _ _ _ _ _ _ h => by cases h), (fun _ _ _ _ _ _ h => by cases h), (fun _ _ _ _ _ _ h => by cases h), (fun _ _ _ _ _ _ h => by cases h)⟩
  | succ n ih =>
    obtain ⟨ih0, ih1, ih2, ih3⟩ := ih
    exact ⟨tX4_fullSites_0 C hQ hr k b0 b1 h0 h1 n ih1, tX4_fullSites_1 C hQ hr k b0 b1 h0 h1 n ih1 ih2, tX4_fullSites_2 C hQ hr k b0 b1 h0 h1 n ih3, tX4_fullSites_3 C hQ hr k b0 b1 h0 h1 n⟩
theorem kX4_fullSites (l : Launch) (G : ra_G) (hj : ra_inj G) (k : Nat) (b0 : Nat) (b1 : Nat) (h0 : ra_S b0) (h1 : ra_N b1)  (w : ra_W) (r : Int32) (w1 : ra_W) (h : FX4_fullSites k b0 b1  w = some (r, w1)) : ra_MI l G yX4_fullSites cX4_fullSites 5 (some .int) 0 0 [.ref (G.1 b0), .ref (G.1 b1)] w r w1 :=
  ra_entryI (own := RX4) (by decide) rfl (Nat.le_of_ble_eq_true rfl) hj (fun Z hl hG C hQ hr => by subst hl; subst hG; exact (tX4_fullSites C hQ hr k b0 b1 h0 h1 k).1 _ _ _ _ _ _ h)
theorem ysX4_fullSites : ra_YV yX4_fullSites cX4_fullSites 5 (some .int) 1 RX4 := ⟨⟨wd_5, wd_410, by decide, by decide, by decide⟩, wd_408, wd_409⟩
/-- TrunkRadio$Air.weakestAt -/
def fX0_weakestAt (k : Nat) (b0 : Nat) (b1 : Nat) : Nat → Nat → Int32 → Int32 → Int32 → Int32 → ra_W → Option (Int32 × ra_W)
  | 0, _, _, _, _, _, _ => none
  | n + 1, L, v2, v3, v4, s0, w => match L with
    | 0 => fX0_weakestAt k b0 b1 n 1 v2 (-9) 0 0 w
    | 1 => if (w b0 0) ≤ v4 then (some (v3, w)) else (if ra_in v4 7 then if (((w (b1 + 5) (ra_ix v4)) >>> (v2 &&& 31)) &&& 1) = 1 then (if (w (b1 + 4) (ra_ix v4)) = 0 then (fX0_weakestAt k b0 b1 n 3 v2 v3 v4 1 w) else (fX0_weakestAt k b0 b1 n 2 v2 v3 v4 0 w)) else (fX0_weakestAt k b0 b1 n 2 v2 v3 v4 0 w) else none)
    | 2 => fX0_weakestAt k b0 b1 n 3 v2 v3 v4 0 w
    | 3 => if s0 = 0 then (fX0_weakestAt k b0 b1 n 5 v2 v3 v4 0 w) else (if v3 = (-9) then (fX0_weakestAt k b0 b1 n 4 v2 0 v4 0 w) else (if ra_in v4 7 then if ra_in v3 7 then if (w (b0 + 4) (ra_ix v3)) < (w (b0 + 4) (ra_ix v4)) then (fX0_weakestAt k b0 b1 n 5 v2 v3 v4 0 w) else (fX0_weakestAt k b0 b1 n 4 v2 0 v4 0 w) else none else none))
    | 4 => fX0_weakestAt k b0 b1 n 5 v2 v4 v4 0 w
    | _ => fX0_weakestAt k b0 b1 n 1 v2 v3 (v4 + 1) 0 w
theorem fX0_weakestAt_0 (k : Nat) (b0 : Nat) (b1 : Nat) (n : Nat) (v2 : Int32) (v3 : Int32) (v4 : Int32) (s0 : Int32) (w : ra_W) : fX0_weakestAt k b0 b1 (n + 1) 0 v2 v3 v4 s0 w = (fX0_weakestAt k b0 b1 n 1 v2 (-9) 0 0 w) := rfl
theorem fX0_weakestAt_1 (k : Nat) (b0 : Nat) (b1 : Nat) (n : Nat) (v2 : Int32) (v3 : Int32) (v4 : Int32) (s0 : Int32) (w : ra_W) : fX0_weakestAt k b0 b1 (n + 1) 1 v2 v3 v4 s0 w = (if (w b0 0) ≤ v4 then (some (v3, w)) else (if ra_in v4 7 then if (((w (b1 + 5) (ra_ix v4)) >>> (v2 &&& 31)) &&& 1) = 1 then (if (w (b1 + 4) (ra_ix v4)) = 0 then (fX0_weakestAt k b0 b1 n 3 v2 v3 v4 1 w) else (fX0_weakestAt k b0 b1 n 2 v2 v3 v4 0 w)) else (fX0_weakestAt k b0 b1 n 2 v2 v3 v4 0 w) else none)) := rfl
theorem fX0_weakestAt_2 (k : Nat) (b0 : Nat) (b1 : Nat) (n : Nat) (v2 : Int32) (v3 : Int32) (v4 : Int32) (s0 : Int32) (w : ra_W) : fX0_weakestAt k b0 b1 (n + 1) 2 v2 v3 v4 s0 w = (fX0_weakestAt k b0 b1 n 3 v2 v3 v4 0 w) := rfl
theorem fX0_weakestAt_3 (k : Nat) (b0 : Nat) (b1 : Nat) (n : Nat) (v2 : Int32) (v3 : Int32) (v4 : Int32) (s0 : Int32) (w : ra_W) : fX0_weakestAt k b0 b1 (n + 1) 3 v2 v3 v4 s0 w = (if s0 = 0 then (fX0_weakestAt k b0 b1 n 5 v2 v3 v4 0 w) else (if v3 = (-9) then (fX0_weakestAt k b0 b1 n 4 v2 0 v4 0 w) else (if ra_in v4 7 then if ra_in v3 7 then if (w (b0 + 4) (ra_ix v3)) < (w (b0 + 4) (ra_ix v4)) then (fX0_weakestAt k b0 b1 n 5 v2 v3 v4 0 w) else (fX0_weakestAt k b0 b1 n 4 v2 0 v4 0 w) else none else none))) := rfl
theorem fX0_weakestAt_4 (k : Nat) (b0 : Nat) (b1 : Nat) (n : Nat) (v2 : Int32) (v3 : Int32) (v4 : Int32) (s0 : Int32) (w : ra_W) : fX0_weakestAt k b0 b1 (n + 1) 4 v2 v3 v4 s0 w = (fX0_weakestAt k b0 b1 n 5 v2 v4 v4 0 w) := rfl
theorem fX0_weakestAt_5 (k : Nat) (b0 : Nat) (b1 : Nat) (n : Nat) (v2 : Int32) (v3 : Int32) (v4 : Int32) (s0 : Int32) (w : ra_W) : fX0_weakestAt k b0 b1 (n + 1) 5 v2 v3 v4 s0 w = (fX0_weakestAt k b0 b1 n 1 v2 v3 (v4 + 1) 0 w) := rfl
def FX0_weakestAt (k : Nat) (b0 : Nat) (b1 : Nat) (v2 : Int32) (w : ra_W) : Option (Int32 × ra_W) := fX0_weakestAt k b0 b1 k 0 v2 0 0 0 w
def pX0_weakestAt_0 (Z : ra_Z) (r : Int32) (w1 : ra_W) (k : Nat) (b0 : Nat) (b1 : Nat) (n : Nat) : Prop := ∀ (v2 : Int32) (v3 : Int32) (v4 : Int32) (s0 : Int32) (w : ra_W), fX0_weakestAt k b0 b1 n 0 v2 v3 v4 s0 w = some (r, w1) → ra_J Z 6 0 [(0, .ref ((zG Z).1 b0)), (1, .ref ((zG Z).1 b1)), (2, .int v2)] [] w
def pX0_weakestAt_1 (Z : ra_Z) (r : Int32) (w1 : ra_W) (k : Nat) (b0 : Nat) (b1 : Nat) (n : Nat) : Prop := ∀ (v2 : Int32) (v3 : Int32) (v4 : Int32) (s0 : Int32) (w : ra_W), fX0_weakestAt k b0 b1 n 1 v2 v3 v4 s0 w = some (r, w1) → ra_J Z 6 6 [(0, .ref ((zG Z).1 b0)), (1, .ref ((zG Z).1 b1)), (2, .int v2), (3, .int v3), (4, .int v4)] [] w
def pX0_weakestAt_2 (Z : ra_Z) (r : Int32) (w1 : ra_W) (k : Nat) (b0 : Nat) (b1 : Nat) (n : Nat) : Prop := ∀ (v2 : Int32) (v3 : Int32) (v4 : Int32) (s0 : Int32) (w : ra_W), fX0_weakestAt k b0 b1 n 2 v2 v3 v4 s0 w = some (r, w1) → ra_J Z 6 44 [(0, .ref ((zG Z).1 b0)), (1, .ref ((zG Z).1 b1)), (2, .int v2), (3, .int v3), (4, .int v4)] [] w
def pX0_weakestAt_3 (Z : ra_Z) (r : Int32) (w1 : ra_W) (k : Nat) (b0 : Nat) (b1 : Nat) (n : Nat) : Prop := ∀ (v2 : Int32) (v3 : Int32) (v4 : Int32) (s0 : Int32) (w : ra_W), fX0_weakestAt k b0 b1 n 3 v2 v3 v4 s0 w = some (r, w1) → ra_J Z 6 45 [(0, .ref ((zG Z).1 b0)), (1, .ref ((zG Z).1 b1)), (2, .int v2), (3, .int v3), (4, .int v4)] [.int s0] w
def pX0_weakestAt_4 (Z : ra_Z) (r : Int32) (w1 : ra_W) (k : Nat) (b0 : Nat) (b1 : Nat) (n : Nat) : Prop := ∀ (v2 : Int32) (v3 : Int32) (v4 : Int32) (s0 : Int32) (w : ra_W), fX0_weakestAt k b0 b1 n 4 v2 v3 v4 s0 w = some (r, w1) → ra_J Z 6 74 [(0, .ref ((zG Z).1 b0)), (1, .ref ((zG Z).1 b1)), (2, .int v2), (4, .int v4)] [] w
def pX0_weakestAt_5 (Z : ra_Z) (r : Int32) (w1 : ra_W) (k : Nat) (b0 : Nat) (b1 : Nat) (n : Nat) : Prop := ∀ (v2 : Int32) (v3 : Int32) (v4 : Int32) (s0 : Int32) (w : ra_W), fX0_weakestAt k b0 b1 n 5 v2 v3 v4 s0 w = some (r, w1) → ra_J Z 6 77 [(0, .ref ((zG Z).1 b0)), (1, .ref ((zG Z).1 b1)), (2, .int v2), (3, .int v3), (4, .int v4)] [] w
set_option maxHeartbeats 4000000 in
theorem tX0_weakestAt_0 {Z : ra_Z} {r : Int32} {w1 : ra_W} (C : ra_C Z cX0_weakestAt 6 RX0 0 0) (hQ : ra_QI Z r w1) (hr : (zmt Z).sig.returnType = (some .int)) (k : Nat) (b0 : Nat) (b1 : Nat) (h0 : ra_N b0) (h1 : ra_S b1) (n : Nat) (ih1 : pX0_weakestAt_1 Z r w1 k b0 b1 n) : pX0_weakestAt_0 Z r w1 k b0 b1 (n + 1) := by
  intro v2 v3 v4 s0 w hf
  rw [fX0_weakestAt_0] at hf
  refine rg_bipush (pc := 0) (v := (-9)) C dX0_weakestAt_0 (by decide) ?_
  refine rg_istore_n (pc := 2) (lv' := [(0, .ref ((zG Z).1 b0)), (1, .ref ((zG Z).1 b1)), (2, .int v2), (3, .int (-9))]) C [1, 2, 3, 0] rfl rfl (by decide) dX0_weakestAt_2 ?_
  refine rg_iconst (pc := 3) (v := 0) C dX0_weakestAt_3 (by decide) ?_
  refine rg_istore (pc := 4) (lv' := [(0, .ref ((zG Z).1 b0)), (1, .ref ((zG Z).1 b1)), (2, .int v2), (3, .int (-9)), (4, .int 0)]) C [1, 2, 3, 4, 0] rfl (by decide) dX0_weakestAt_4 ?_
  exact ih1 _ _ _ _ _ hf
set_option maxHeartbeats 4000000 in
theorem tX0_weakestAt_1 {Z : ra_Z} {r : Int32} {w1 : ra_W} (C : ra_C Z cX0_weakestAt 6 RX0 0 0) (hQ : ra_QI Z r w1) (hr : (zmt Z).sig.returnType = (some .int)) (k : Nat) (b0 : Nat) (b1 : Nat) (h0 : ra_N b0) (h1 : ra_S b1) (n : Nat) (ih2 : pX0_weakestAt_2 Z r w1 k b0 b1 n) (ih3 : pX0_weakestAt_3 Z r w1 k b0 b1 n) : pX0_weakestAt_1 Z r w1 k b0 b1 (n + 1) := by
  intro v2 v3 v4 s0 w hf
  rw [fX0_weakestAt_1] at hf
  refine rg_iload (pc := 6) C 4 rfl dX0_weakestAt_6 ?_
  refine rg_aload_n (pc := 8) C 0 rfl rfl dX0_weakestAt_8 ?_
  refine rg_get (pc := 9) C b0 2 0 h0.1 (by decide) rfl inlX2 (by decide) wd_66 rfl dX0_weakestAt_9 ?_
  refine rg_icmp_ge (pc := 12) (tgt := 83) C dX0_weakestAt_12 (by decide) (fun c1 => ?_) (fun c1 => ?_)
  · replace hf := ra_t hf c1
    refine rg_iload_n (pc := 83) C 3 rfl rfl dX0_weakestAt_83 ?_
    exact rg_iret (pc := 84) C hQ hr hf dX0_weakestAt_84
  · replace hf := ra_f hf c1
    refine rg_aload_n (pc := 15) C 1 rfl rfl dX0_weakestAt_15 ?_
    refine rg_get (pc := 16) C b1 4 4 h1.1 (by decide) rfl inlX4 (by decide) wd_144 rfl dX0_weakestAt_16 ?_
    refine rg_iload (pc := 19) C 4 rfl dX0_weakestAt_19 ?_
    obtain ⟨g2, hf⟩ := ra_gd hf
    refine rg_iald (pc := 21) (j := (ra_ix v4)) C (b1 + 5) h1.2.2.2.2.2.1 rfl g2 dX0_weakestAt_21 ?_
    refine rg_iload_n (pc := 22) C 2 rfl rfl dX0_weakestAt_22 ?_
    refine rg_ishr (pc := 23) C dX0_weakestAt_23 ?_
    refine rg_iconst (pc := 24) (v := 1) C dX0_weakestAt_24 (by decide) ?_
    refine rg_iand (pc := 25) C dX0_weakestAt_25 ?_
    refine rg_iconst (pc := 26) (v := 1) C dX0_weakestAt_26 (by decide) ?_
    refine rg_icmp_ne (pc := 27) (tgt := 44) C dX0_weakestAt_27 (by decide) (fun c3 => ?_) (fun c3 => ?_)
    · replace hf := ra_f hf c3
      exact ih2 _ _ _ _ _ hf
    · replace hf := ra_t hf c3
      refine rg_aload_n (pc := 30) C 1 rfl rfl dX0_weakestAt_30 ?_
      refine rg_get (pc := 31) C b1 4 3 h1.1 (by decide) rfl inlX4 (by decide) wd_140 rfl dX0_weakestAt_31 ?_
      refine rg_iload (pc := 34) C 4 rfl dX0_weakestAt_34 ?_
      refine rg_iald (pc := 36) (j := (ra_ix v4)) C (b1 + 4) h1.2.2.2.2.1 rfl g2 dX0_weakestAt_36 ?_
      refine rg_if_ne (pc := 37) (tgt := 44) C dX0_weakestAt_37 (by decide) (fun c4 => ?_) (fun c4 => ?_)
      · replace hf := ra_f hf c4
        exact ih2 _ _ _ _ _ hf
      · replace hf := ra_t hf c4
        refine rg_iconst (pc := 40) (v := 1) C dX0_weakestAt_40 (by decide) ?_
        refine rg_goto (pc := 41) (tgt := 45) C dX0_weakestAt_41 (by decide) ?_
        exact ih3 _ _ _ _ _ hf
set_option maxHeartbeats 4000000 in
theorem tX0_weakestAt_2 {Z : ra_Z} {r : Int32} {w1 : ra_W} (C : ra_C Z cX0_weakestAt 6 RX0 0 0) (hQ : ra_QI Z r w1) (hr : (zmt Z).sig.returnType = (some .int)) (k : Nat) (b0 : Nat) (b1 : Nat) (h0 : ra_N b0) (h1 : ra_S b1) (n : Nat) (ih3 : pX0_weakestAt_3 Z r w1 k b0 b1 n) : pX0_weakestAt_2 Z r w1 k b0 b1 (n + 1) := by
  intro v2 v3 v4 s0 w hf
  rw [fX0_weakestAt_2] at hf
  refine rg_iconst (pc := 44) (v := 0) C dX0_weakestAt_44 (by decide) ?_
  exact ih3 _ _ _ _ _ hf
set_option maxHeartbeats 4000000 in
theorem tX0_weakestAt_3 {Z : ra_Z} {r : Int32} {w1 : ra_W} (C : ra_C Z cX0_weakestAt 6 RX0 0 0) (hQ : ra_QI Z r w1) (hr : (zmt Z).sig.returnType = (some .int)) (k : Nat) (b0 : Nat) (b1 : Nat) (h0 : ra_N b0) (h1 : ra_S b1) (n : Nat) (ih4 : pX0_weakestAt_4 Z r w1 k b0 b1 n) (ih5 : pX0_weakestAt_5 Z r w1 k b0 b1 n) : pX0_weakestAt_3 Z r w1 k b0 b1 (n + 1) := by
  intro v2 v3 v4 s0 w hf
  rw [fX0_weakestAt_3] at hf
  refine rg_istore (pc := 45) (lv' := [(0, .ref ((zG Z).1 b0)), (1, .ref ((zG Z).1 b1)), (2, .int v2), (3, .int v3), (4, .int v4), (5, .int s0)]) C [1, 2, 3, 4, 5, 0] rfl (by decide) dX0_weakestAt_45 ?_
  refine rg_iload (pc := 47) C 5 rfl dX0_weakestAt_47 ?_
  refine rg_if_eq (pc := 49) (tgt := 77) C dX0_weakestAt_49 (by decide) (fun c1 => ?_) (fun c1 => ?_)
  · replace hf := ra_t hf c1
    refine rg_sub [0, 1, 2, 3, 4] rfl ?_
    exact ih5 _ _ _ _ _ hf
  · replace hf := ra_f hf c1
    refine rg_iload_n (pc := 52) C 3 rfl rfl dX0_weakestAt_52 ?_
    refine rg_bipush (pc := 53) (v := (-9)) C dX0_weakestAt_53 (by decide) ?_
    refine rg_icmp_eq (pc := 55) (tgt := 74) C dX0_weakestAt_55 (by decide) (fun c2 => ?_) (fun c2 => ?_)
    · replace hf := ra_t hf c2
      refine rg_sub [0, 1, 2, 4] rfl ?_
      exact ih4 _ _ _ _ _ hf
    · replace hf := ra_f hf c2
      refine rg_aload_n (pc := 58) C 0 rfl rfl dX0_weakestAt_58 ?_
      refine rg_get (pc := 59) C b0 2 6 h0.1 (by decide) rfl inlX2 (by decide) wd_92 rfl dX0_weakestAt_59 ?_
      refine rg_iload (pc := 62) C 4 rfl dX0_weakestAt_62 ?_
      obtain ⟨g3, hf⟩ := ra_gd hf
      refine rg_iald (pc := 64) (j := (ra_ix v4)) C (b0 + 4) h0.2.2.2.2 rfl g3 dX0_weakestAt_64 ?_
      refine rg_aload_n (pc := 65) C 0 rfl rfl dX0_weakestAt_65 ?_
      refine rg_get (pc := 66) C b0 2 6 h0.1 (by decide) rfl inlX2 (by decide) wd_92 rfl dX0_weakestAt_66 ?_
      refine rg_iload_n (pc := 69) C 3 rfl rfl dX0_weakestAt_69 ?_
      obtain ⟨g4, hf⟩ := ra_gd hf
      refine rg_iald (pc := 70) (j := (ra_ix v3)) C (b0 + 4) h0.2.2.2.2 rfl g4 dX0_weakestAt_70 ?_
      refine rg_icmp_gt (pc := 71) (tgt := 77) C dX0_weakestAt_71 (by decide) (fun c5 => ?_) (fun c5 => ?_)
      · replace hf := ra_t hf c5
        refine rg_sub [0, 1, 2, 3, 4] rfl ?_
        exact ih5 _ _ _ _ _ hf
      · replace hf := ra_f hf c5
        refine rg_sub [0, 1, 2, 4] rfl ?_
        exact ih4 _ _ _ _ _ hf
set_option maxHeartbeats 4000000 in
theorem tX0_weakestAt_4 {Z : ra_Z} {r : Int32} {w1 : ra_W} (C : ra_C Z cX0_weakestAt 6 RX0 0 0) (hQ : ra_QI Z r w1) (hr : (zmt Z).sig.returnType = (some .int)) (k : Nat) (b0 : Nat) (b1 : Nat) (h0 : ra_N b0) (h1 : ra_S b1) (n : Nat) (ih5 : pX0_weakestAt_5 Z r w1 k b0 b1 n) : pX0_weakestAt_4 Z r w1 k b0 b1 (n + 1) := by
  intro v2 v3 v4 s0 w hf
  rw [fX0_weakestAt_4] at hf
  refine rg_iload (pc := 74) C 3 rfl dX0_weakestAt_74 ?_
  refine rg_istore_n (pc := 76) (lv' := [(0, .ref ((zG Z).1 b0)), (1, .ref ((zG Z).1 b1)), (2, .int v2), (3, .int v4), (4, .int v4)]) C [1, 2, 3, 0, 4] rfl rfl (by decide) dX0_weakestAt_76 ?_
  exact ih5 _ _ _ _ _ hf
set_option maxHeartbeats 4000000 in
theorem tX0_weakestAt_5 {Z : ra_Z} {r : Int32} {w1 : ra_W} (C : ra_C Z cX0_weakestAt 6 RX0 0 0) (hQ : ra_QI Z r w1) (hr : (zmt Z).sig.returnType = (some .int)) (k : Nat) (b0 : Nat) (b1 : Nat) (h0 : ra_N b0) (h1 : ra_S b1) (n : Nat) (ih1 : pX0_weakestAt_1 Z r w1 k b0 b1 n) : pX0_weakestAt_5 Z r w1 k b0 b1 (n + 1) := by
  intro v2 v3 v4 s0 w hf
  rw [fX0_weakestAt_5] at hf
  refine rg_iinc (pc := 77) (v := (v4 + 1)) (lv' := [(0, .ref ((zG Z).1 b0)), (1, .ref ((zG Z).1 b1)), (2, .int v2), (3, .int v3), (4, .int (v4 + 1))]) C 4 rfl [1, 2, 3, 4, 0] (ra_ii (by decide)) rfl (by decide) dX0_weakestAt_77 ?_
  refine rg_goto (pc := 80) (tgt := 6) C dX0_weakestAt_80 (by decide) ?_
  exact ih1 _ _ _ _ _ hf
theorem tX0_weakestAt {Z : ra_Z} {r : Int32} {w1 : ra_W} (C : ra_C Z cX0_weakestAt 6 RX0 0 0) (hQ : ra_QI Z r w1) (hr : (zmt Z).sig.returnType = (some .int)) (k : Nat) (b0 : Nat) (b1 : Nat) (h0 : ra_N b0) (h1 : ra_S b1) : ∀ n : Nat, pX0_weakestAt_0 Z r w1 k b0 b1 n ∧ pX0_weakestAt_1 Z r w1 k b0 b1 n ∧ pX0_weakestAt_2 Z r w1 k b0 b1 n ∧ pX0_weakestAt_3 Z r w1 k b0 b1 n ∧ pX0_weakestAt_4 Z r w1 k b0 b1 n ∧ pX0_weakestAt_5 Z r w1 k b0 b1 n := by
  intro n
  induction n with
  | zero => exact ⟨(fun _ _ _ _ _ h => by cases h), (fun _ _ _ _ _ h => by cases h), (fun _ _ _ _ _ h => by cases h), (fun _ _ _ _ _ h => by cases h), (fun _ _ _ _ _ h => by cases h), (fun _ _ _ _ _ h => by cases h)⟩
  | succ n ih =>
    obtain ⟨ih0, ih1, ih2, ih3, ih4, ih5⟩ := ih
    exact ⟨tX0_weakestAt_0 C hQ hr k b0 b1 h0 h1 n ih1, tX0_weakestAt_1 C hQ hr k b0 b1 h0 h1 n ih2 ih3, tX0_weakestAt_2 C hQ hr k b0 b1 h0 h1 n ih3, tX0_weakestAt_3 C hQ hr k b0 b1 h0 h1 n ih4 ih5, tX0_weakestAt_4 C hQ hr k b0 b1 h0 h1 n ih5, tX0_weakestAt_5 C hQ hr k b0 b1 h0 h1 n ih1⟩
theorem kX0_weakestAt (l : Launch) (G : ra_G) (hj : ra_inj G) (k : Nat) (b0 : Nat) (b1 : Nat) (h0 : ra_N b0) (h1 : ra_S b1) (v2 : Int32) (w : ra_W) (r : Int32) (w1 : ra_W) (h : FX0_weakestAt k b0 b1 v2 w = some (r, w1)) : ra_MI l G yX0_weakestAt cX0_weakestAt 6 (some .int) 0 0 [.ref (G.1 b0), .ref (G.1 b1), .int v2] w r w1 :=
  ra_entryI (own := RX0) (by decide) rfl (Nat.le_of_ble_eq_true rfl) hj (fun Z hl hG C hQ hr => by subst hl; subst hG; exact (tX0_weakestAt C hQ hr k b0 b1 h0 h1 k).1 _ _ _ _ _ h)
theorem ysX0_weakestAt : ra_YS yX0_weakestAt cX0_weakestAt 6 (some .int) 3 := ⟨⟨wd_4, wd_413, by decide, by decide, by decide⟩, wd_412⟩
/-- TrunkRadio$Air.takeOver -/
def fX0_takeOver (k : Nat) (b0 : Nat) (b1 : Nat) : Nat → Nat → Int32 → Int32 → Int32 → ra_W → Option (Int32 × ra_W)
  | 0, _, _, _, _, _ => none
  | n + 1, L, v2, v3, v4, w => match L with
    | 0 => ra_bind (FX4_fullSites k b1 b0 w) (fun r1 w2 => fX0_takeOver k b0 b1 n 1 v2 (v2 &&& r1) 0 w2)
    | 1 => if 2 ≤ v4 then (fX0_takeOver k b0 b1 n 3 v2 0 0 w) else (if ((v3 >>> (v4 &&& 31)) &&& 1) = 1 then (ra_bind (FX0_weakestAt k b0 b1 v4 w) (fun r3 w4 => if r3 = (-9) then (some (0, w4)) else (fX0_takeOver k b0 b1 n 2 v2 v3 v4 w4))) else (fX0_takeOver k b0 b1 n 2 v2 v3 v4 w))
    | 2 => fX0_takeOver k b0 b1 n 1 v2 v3 (v4 + 1) w
    | 3 => if 2 ≤ v4 then (some (0, w)) else (ra_bind (FX4_fullSites k b1 b0 w) (fun r2 w3 => ra_bind (FX0_weakestAt k b0 b1 v4 w3) (fun r5 w6 => if (((v2 &&& r2) >>> (v4 &&& 31)) &&& 1) = 1 then (if r5 = (-9) then (fX0_takeOver k b0 b1 n 4 v2 0 v4 w6) else (ra_bind (FX4_rest k b1 r5 w6) (fun _ w11 => fX0_takeOver k b0 b1 n 4 v2 0 v4 w11))) else (fX0_takeOver k b0 b1 n 4 v2 0 v4 w6))))
    | _ => fX0_takeOver k b0 b1 n 3 v2 0 (v4 + 1) w
theorem fX0_takeOver_0 (k : Nat) (b0 : Nat) (b1 : Nat) (n : Nat) (v2 : Int32) (v3 : Int32) (v4 : Int32) (w : ra_W) : fX0_takeOver k b0 b1 (n + 1) 0 v2 v3 v4 w = (ra_bind (FX4_fullSites k b1 b0 w) (fun r1 w2 => fX0_takeOver k b0 b1 n 1 v2 (v2 &&& r1) 0 w2)) := rfl
theorem fX0_takeOver_1 (k : Nat) (b0 : Nat) (b1 : Nat) (n : Nat) (v2 : Int32) (v3 : Int32) (v4 : Int32) (w : ra_W) : fX0_takeOver k b0 b1 (n + 1) 1 v2 v3 v4 w = (if 2 ≤ v4 then (fX0_takeOver k b0 b1 n 3 v2 0 0 w) else (if ((v3 >>> (v4 &&& 31)) &&& 1) = 1 then (ra_bind (FX0_weakestAt k b0 b1 v4 w) (fun r3 w4 => if r3 = (-9) then (some (0, w4)) else (fX0_takeOver k b0 b1 n 2 v2 v3 v4 w4))) else (fX0_takeOver k b0 b1 n 2 v2 v3 v4 w))) := rfl
theorem fX0_takeOver_2 (k : Nat) (b0 : Nat) (b1 : Nat) (n : Nat) (v2 : Int32) (v3 : Int32) (v4 : Int32) (w : ra_W) : fX0_takeOver k b0 b1 (n + 1) 2 v2 v3 v4 w = (fX0_takeOver k b0 b1 n 1 v2 v3 (v4 + 1) w) := rfl
theorem fX0_takeOver_3 (k : Nat) (b0 : Nat) (b1 : Nat) (n : Nat) (v2 : Int32) (v3 : Int32) (v4 : Int32) (w : ra_W) : fX0_takeOver k b0 b1 (n + 1) 3 v2 v3 v4 w = (if 2 ≤ v4 then (some (0, w)) else (ra_bind (FX4_fullSites k b1 b0 w) (fun r2 w3 => ra_bind (FX0_weakestAt k b0 b1 v4 w3) (fun r5 w6 => if (((v2 &&& r2) >>> (v4 &&& 31)) &&& 1) = 1 then (if r5 = (-9) then (fX0_takeOver k b0 b1 n 4 v2 0 v4 w6) else (ra_bind (FX4_rest k b1 r5 w6) (fun _ w11 => fX0_takeOver k b0 b1 n 4 v2 0 v4 w11))) else (fX0_takeOver k b0 b1 n 4 v2 0 v4 w6))))) := rfl
theorem fX0_takeOver_4 (k : Nat) (b0 : Nat) (b1 : Nat) (n : Nat) (v2 : Int32) (v3 : Int32) (v4 : Int32) (w : ra_W) : fX0_takeOver k b0 b1 (n + 1) 4 v2 v3 v4 w = (fX0_takeOver k b0 b1 n 3 v2 0 (v4 + 1) w) := rfl
def FX0_takeOver (k : Nat) (b0 : Nat) (b1 : Nat) (v2 : Int32) (w : ra_W) : Option (Int32 × ra_W) := fX0_takeOver k b0 b1 k 0 v2 0 0 w
def pX0_takeOver_0 (Z : ra_Z) (r : Int32) (w1 : ra_W) (k : Nat) (b0 : Nat) (b1 : Nat) (n : Nat) : Prop := ∀ (v2 : Int32) (v3 : Int32) (v4 : Int32) (w : ra_W), fX0_takeOver k b0 b1 n 0 v2 v3 v4 w = some (r, w1) → ra_J Z 6 0 [(0, .ref ((zG Z).1 b0)), (1, .ref ((zG Z).1 b1)), (2, .int v2)] [] w
def pX0_takeOver_1 (Z : ra_Z) (r : Int32) (w1 : ra_W) (k : Nat) (b0 : Nat) (b1 : Nat) (n : Nat) : Prop := ∀ (v2 : Int32) (v3 : Int32) (v4 : Int32) (w : ra_W), fX0_takeOver k b0 b1 n 1 v2 v3 v4 w = some (r, w1) → ra_J Z 6 11 [(0, .ref ((zG Z).1 b0)), (1, .ref ((zG Z).1 b1)), (2, .int v2), (3, .int v3), (4, .int v4)] [] w
def pX0_takeOver_2 (Z : ra_Z) (r : Int32) (w1 : ra_W) (k : Nat) (b0 : Nat) (b1 : Nat) (n : Nat) : Prop := ∀ (v2 : Int32) (v3 : Int32) (v4 : Int32) (w : ra_W), fX0_takeOver k b0 b1 n 2 v2 v3 v4 w = some (r, w1) → ra_J Z 6 40 [(0, .ref ((zG Z).1 b0)), (1, .ref ((zG Z).1 b1)), (2, .int v2), (3, .int v3), (4, .int v4)] [] w
def pX0_takeOver_3 (Z : ra_Z) (r : Int32) (w1 : ra_W) (k : Nat) (b0 : Nat) (b1 : Nat) (n : Nat) : Prop := ∀ (v2 : Int32) (v3 : Int32) (v4 : Int32) (w : ra_W), fX0_takeOver k b0 b1 n 3 v2 v3 v4 w = some (r, w1) → ra_J Z 6 49 [(0, .ref ((zG Z).1 b0)), (1, .ref ((zG Z).1 b1)), (2, .int v2), (4, .int v4)] [] w
def pX0_takeOver_4 (Z : ra_Z) (r : Int32) (w1 : ra_W) (k : Nat) (b0 : Nat) (b1 : Nat) (n : Nat) : Prop := ∀ (v2 : Int32) (v3 : Int32) (v4 : Int32) (w : ra_W), fX0_takeOver k b0 b1 n 4 v2 v3 v4 w = some (r, w1) → ra_J Z 6 95 [(0, .ref ((zG Z).1 b0)), (1, .ref ((zG Z).1 b1)), (2, .int v2), (4, .int v4)] [] w
set_option maxHeartbeats 4000000 in
theorem tX0_takeOver_0 {Z : ra_Z} {r : Int32} {w1 : ra_W} (C : ra_C Z cX0_takeOver 6 RX0 2 43) (hQ : ra_QV Z r w1) (hr : (zmt Z).sig.returnType = none) (k : Nat) (b0 : Nat) (b1 : Nat) (h0 : ra_N b0) (h1 : ra_S b1) (n : Nat) (ih1 : pX0_takeOver_1 Z r w1 k b0 b1 n) : pX0_takeOver_0 Z r w1 k b0 b1 (n + 1) := by
  intro v2 v3 v4 w hf
  rw [fX0_takeOver_0] at hf
  refine rg_iload_n (pc := 0) C 2 rfl rfl dX0_takeOver_0 ?_
  refine rg_aload_n (pc := 1) C 1 rfl rfl dX0_takeOver_1 ?_
  refine rg_aload_n (pc := 2) C 0 rfl rfl dX0_takeOver_2 ?_
  obtain ⟨r1, w2, e3, hf⟩ := ra_bd hf
  refine rg_callVI (pc := 3) (As := [.ref ((zG Z).1 b0)]) (st := [.int v2]) C (kX4_fullSites (zl Z) (zG Z) C.hj k b1 b0 h1 h0 _ _ _ e3) h1.1 (by decide) rfl ysX4_fullSites rfl wd_407 ⟨Nat.le_of_ble_eq_true rfl, Nat.le_of_ble_eq_true rfl⟩ rfl (Nat.le_of_ble_eq_true rfl) dX0_takeOver_3 ?_
  refine rg_iand (pc := 6) C dX0_takeOver_6 ?_
  refine rg_istore_n (pc := 7) (lv' := [(0, .ref ((zG Z).1 b0)), (1, .ref ((zG Z).1 b1)), (2, .int v2), (3, .int (v2 &&& r1))]) C [1, 2, 3, 0] rfl rfl (by decide) dX0_takeOver_7 ?_
  refine rg_iconst (pc := 8) (v := 0) C dX0_takeOver_8 (by decide) ?_
  refine rg_istore (pc := 9) (lv' := [(0, .ref ((zG Z).1 b0)), (1, .ref ((zG Z).1 b1)), (2, .int v2), (3, .int (v2 &&& r1)), (4, .int 0)]) C [1, 2, 3, 4, 0] rfl (by decide) dX0_takeOver_9 ?_
  exact ih1 _ _ _ _ hf
set_option maxHeartbeats 4000000 in
theorem tX0_takeOver_1 {Z : ra_Z} {r : Int32} {w1 : ra_W} (C : ra_C Z cX0_takeOver 6 RX0 2 43) (hQ : ra_QV Z r w1) (hr : (zmt Z).sig.returnType = none) (k : Nat) (b0 : Nat) (b1 : Nat) (h0 : ra_N b0) (h1 : ra_S b1) (n : Nat) (ih2 : pX0_takeOver_2 Z r w1 k b0 b1 n) (ih3 : pX0_takeOver_3 Z r w1 k b0 b1 n) : pX0_takeOver_1 Z r w1 k b0 b1 (n + 1) := by
  intro v2 v3 v4 w hf
  rw [fX0_takeOver_1] at hf
  refine rg_iload (pc := 11) C 4 rfl dX0_takeOver_11 ?_
  refine rg_iconst (pc := 13) (v := 2) C dX0_takeOver_13 (by decide) ?_
  refine rg_icmp_ge (pc := 14) (tgt := 46) C dX0_takeOver_14 (by decide) (fun c1 => ?_) (fun c1 => ?_)
  · replace hf := ra_t hf c1
    refine rg_iconst (pc := 46) (v := 0) C dX0_takeOver_46 (by decide) ?_
    refine rg_istore (pc := 47) (lv' := [(0, .ref ((zG Z).1 b0)), (1, .ref ((zG Z).1 b1)), (2, .int v2), (3, .int v3), (4, .int 0)]) C [1, 2, 3, 4, 0] rfl (by decide) dX0_takeOver_47 ?_
    refine rg_sub [0, 1, 2, 4] rfl ?_
    exact ih3 _ _ _ _ hf
  · replace hf := ra_f hf c1
    refine rg_iload_n (pc := 17) C 3 rfl rfl dX0_takeOver_17 ?_
    refine rg_iload (pc := 18) C 4 rfl dX0_takeOver_18 ?_
    refine rg_ishr (pc := 20) C dX0_takeOver_20 ?_
    refine rg_iconst (pc := 21) (v := 1) C dX0_takeOver_21 (by decide) ?_
    refine rg_iand (pc := 22) C dX0_takeOver_22 ?_
    refine rg_iconst (pc := 23) (v := 1) C dX0_takeOver_23 (by decide) ?_
    refine rg_icmp_ne (pc := 24) (tgt := 40) C dX0_takeOver_24 (by decide) (fun c2 => ?_) (fun c2 => ?_)
    · replace hf := ra_f hf c2
      exact ih2 _ _ _ _ hf
    · replace hf := ra_t hf c2
      refine rg_aload_n (pc := 27) C 0 rfl rfl dX0_takeOver_27 ?_
      refine rg_aload_n (pc := 28) C 1 rfl rfl dX0_takeOver_28 ?_
      refine rg_iload (pc := 29) C 4 rfl dX0_takeOver_29 ?_
      obtain ⟨r3, w4, e5, hf⟩ := ra_bd hf
      refine rg_callSI (pc := 31) (As := [.ref ((zG Z).1 b0), .ref ((zG Z).1 b1), .int v4]) (st := []) C (kX0_weakestAt (zl Z) (zG Z) C.hj k b0 b1 h0 h1 _ _ _ _ e5) ysX0_weakestAt rfl wd_411 ⟨Nat.le_of_ble_eq_true rfl, Nat.le_of_ble_eq_true rfl⟩ rfl (Nat.le_of_ble_eq_true rfl) dX0_takeOver_31 ?_
      refine rg_bipush (pc := 34) (v := (-9)) C dX0_takeOver_34 (by decide) ?_
      refine rg_icmp_ne (pc := 36) (tgt := 40) C dX0_takeOver_36 (by decide) (fun c6 => ?_) (fun c6 => ?_)
      · replace hf := ra_f hf c6
        exact ih2 _ _ _ _ hf
      · replace hf := ra_t hf c6
        exact rg_vret (pc := 39) C hQ hr hf dX0_takeOver_39
set_option maxHeartbeats 4000000 in
theorem tX0_takeOver_2 {Z : ra_Z} {r : Int32} {w1 : ra_W} (C : ra_C Z cX0_takeOver 6 RX0 2 43) (hQ : ra_QV Z r w1) (hr : (zmt Z).sig.returnType = none) (k : Nat) (b0 : Nat) (b1 : Nat) (h0 : ra_N b0) (h1 : ra_S b1) (n : Nat) (ih1 : pX0_takeOver_1 Z r w1 k b0 b1 n) : pX0_takeOver_2 Z r w1 k b0 b1 (n + 1) := by
  intro v2 v3 v4 w hf
  rw [fX0_takeOver_2] at hf
  refine rg_iinc (pc := 40) (v := (v4 + 1)) (lv' := [(0, .ref ((zG Z).1 b0)), (1, .ref ((zG Z).1 b1)), (2, .int v2), (3, .int v3), (4, .int (v4 + 1))]) C 4 rfl [1, 2, 3, 4, 0] (ra_ii (by decide)) rfl (by decide) dX0_takeOver_40 ?_
  refine rg_goto (pc := 43) (tgt := 11) C dX0_takeOver_43 (by decide) ?_
  exact ih1 _ _ _ _ hf
set_option maxHeartbeats 4000000 in
theorem tX0_takeOver_3 {Z : ra_Z} {r : Int32} {w1 : ra_W} (C : ra_C Z cX0_takeOver 6 RX0 2 43) (hQ : ra_QV Z r w1) (hr : (zmt Z).sig.returnType = none) (k : Nat) (b0 : Nat) (b1 : Nat) (h0 : ra_N b0) (h1 : ra_S b1) (n : Nat) (ih4 : pX0_takeOver_4 Z r w1 k b0 b1 n) : pX0_takeOver_3 Z r w1 k b0 b1 (n + 1) := by
  intro v2 v3 v4 w hf
  rw [fX0_takeOver_3] at hf
  refine rg_iload (pc := 49) C 3 rfl dX0_takeOver_49 ?_
  refine rg_iconst (pc := 51) (v := 2) C dX0_takeOver_51 (by decide) ?_
  refine rg_icmp_ge (pc := 52) (tgt := 101) C dX0_takeOver_52 (by decide) (fun c1 => ?_) (fun c1 => ?_)
  · replace hf := ra_t hf c1
    exact rg_vret (pc := 101) C hQ hr hf dX0_takeOver_101
  · replace hf := ra_f hf c1
    refine rg_iload_n (pc := 55) C 2 rfl rfl dX0_takeOver_55 ?_
    refine rg_aload_n (pc := 56) C 1 rfl rfl dX0_takeOver_56 ?_
    refine rg_aload_n (pc := 57) C 0 rfl rfl dX0_takeOver_57 ?_
    obtain ⟨r2, w3, e4, hf⟩ := ra_bd hf
    refine rg_callVI (pc := 58) (As := [.ref ((zG Z).1 b0)]) (st := [.int v2]) C (kX4_fullSites (zl Z) (zG Z) C.hj k b1 b0 h1 h0 _ _ _ e4) h1.1 (by decide) rfl ysX4_fullSites rfl wd_407 ⟨Nat.le_of_ble_eq_true rfl, Nat.le_of_ble_eq_true rfl⟩ rfl (Nat.le_of_ble_eq_true rfl) dX0_takeOver_58 ?_
    refine rg_iand (pc := 61) C dX0_takeOver_61 ?_
    refine rg_istore_n (pc := 62) (lv' := [(0, .ref ((zG Z).1 b0)), (1, .ref ((zG Z).1 b1)), (2, .int v2), (3, .int (v2 &&& r2)), (4, .int v4)]) C [1, 2, 3, 0, 4] rfl rfl (by decide) dX0_takeOver_62 ?_
    refine rg_aload_n (pc := 63) C 0 rfl rfl dX0_takeOver_63 ?_
    refine rg_aload_n (pc := 64) C 1 rfl rfl dX0_takeOver_64 ?_
    refine rg_iload (pc := 65) C 4 rfl dX0_takeOver_65 ?_
    obtain ⟨r5, w6, e7, hf⟩ := ra_bd hf
    refine rg_callSI (pc := 67) (As := [.ref ((zG Z).1 b0), .ref ((zG Z).1 b1), .int v4]) (st := []) C (kX0_weakestAt (zl Z) (zG Z) C.hj k b0 b1 h0 h1 _ _ _ _ e7) ysX0_weakestAt rfl wd_411 ⟨Nat.le_of_ble_eq_true rfl, Nat.le_of_ble_eq_true rfl⟩ rfl (Nat.le_of_ble_eq_true rfl) dX0_takeOver_67 ?_
    refine rg_istore (pc := 70) (lv' := [(0, .ref ((zG Z).1 b0)), (1, .ref ((zG Z).1 b1)), (2, .int v2), (3, .int (v2 &&& r2)), (4, .int v4), (5, .int r5)]) C [1, 2, 3, 4, 5, 0] rfl (by decide) dX0_takeOver_70 ?_
    refine rg_iload_n (pc := 72) C 3 rfl rfl dX0_takeOver_72 ?_
    refine rg_iload (pc := 73) C 4 rfl dX0_takeOver_73 ?_
    refine rg_ishr (pc := 75) C dX0_takeOver_75 ?_
    refine rg_iconst (pc := 76) (v := 1) C dX0_takeOver_76 (by decide) ?_
    refine rg_iand (pc := 77) C dX0_takeOver_77 ?_
    refine rg_iconst (pc := 78) (v := 1) C dX0_takeOver_78 (by decide) ?_
    refine rg_icmp_ne (pc := 79) (tgt := 95) C dX0_takeOver_79 (by decide) (fun c8 => ?_) (fun c8 => ?_)
    · replace hf := ra_f hf c8
      refine rg_sub [0, 1, 2, 4] rfl ?_
      exact ih4 _ _ _ _ hf
    · replace hf := ra_t hf c8
      refine rg_iload (pc := 82) C 5 rfl dX0_takeOver_82 ?_
      refine rg_bipush (pc := 84) (v := (-9)) C dX0_takeOver_84 (by decide) ?_
      refine rg_icmp_eq (pc := 86) (tgt := 95) C dX0_takeOver_86 (by decide) (fun c9 => ?_) (fun c9 => ?_)
      · replace hf := ra_t hf c9
        refine rg_sub [0, 1, 2, 4] rfl ?_
        exact ih4 _ _ _ _ hf
      · replace hf := ra_f hf c9
        refine rg_aload_n (pc := 89) C 1 rfl rfl dX0_takeOver_89 ?_
        refine rg_iload (pc := 90) C 5 rfl dX0_takeOver_90 ?_
        obtain ⟨r10, w11, e12, hf⟩ := ra_bd hf
        refine rg_callVV (pc := 92) (As := [.int r5]) (st := []) C (kX4_rest (zl Z) (zG Z) C.hj k b1 h1 _ _ _ _ e12) h1.1 (by decide) rfl ysX4_rest rfl wd_386 ⟨Nat.le_of_ble_eq_true rfl, Nat.le_of_ble_eq_true rfl⟩ rfl (Nat.le_of_ble_eq_true rfl) dX0_takeOver_92 ?_
        refine rg_sub [0, 1, 2, 4] rfl ?_
        exact ih4 _ _ _ _ hf
set_option maxHeartbeats 4000000 in
theorem tX0_takeOver_4 {Z : ra_Z} {r : Int32} {w1 : ra_W} (C : ra_C Z cX0_takeOver 6 RX0 2 43) (hQ : ra_QV Z r w1) (hr : (zmt Z).sig.returnType = none) (k : Nat) (b0 : Nat) (b1 : Nat) (h0 : ra_N b0) (h1 : ra_S b1) (n : Nat) (ih3 : pX0_takeOver_3 Z r w1 k b0 b1 n) : pX0_takeOver_4 Z r w1 k b0 b1 (n + 1) := by
  intro v2 v3 v4 w hf
  rw [fX0_takeOver_4] at hf
  refine rg_iinc (pc := 95) (v := (v4 + 1)) (lv' := [(0, .ref ((zG Z).1 b0)), (1, .ref ((zG Z).1 b1)), (2, .int v2), (4, .int (v4 + 1))]) C 3 rfl [1, 2, 3, 0] (ra_ii (by decide)) rfl (by decide) dX0_takeOver_95 ?_
  refine rg_goto (pc := 98) (tgt := 49) C dX0_takeOver_98 (by decide) ?_
  exact ih3 _ _ _ _ hf
theorem tX0_takeOver {Z : ra_Z} {r : Int32} {w1 : ra_W} (C : ra_C Z cX0_takeOver 6 RX0 2 43) (hQ : ra_QV Z r w1) (hr : (zmt Z).sig.returnType = none) (k : Nat) (b0 : Nat) (b1 : Nat) (h0 : ra_N b0) (h1 : ra_S b1) : ∀ n : Nat, pX0_takeOver_0 Z r w1 k b0 b1 n ∧ pX0_takeOver_1 Z r w1 k b0 b1 n ∧ pX0_takeOver_2 Z r w1 k b0 b1 n ∧ pX0_takeOver_3 Z r w1 k b0 b1 n ∧ pX0_takeOver_4 Z r w1 k b0 b1 n := by
  intro n
  induction n with
  | zero => exact ⟨(fun _ _ _ _ h => by cases h), (fun _ _ _ _ h => by cases h), (fun _ _ _ _ h => by cases h), (fun _ _ _ _ h => by cases h), (fun _ _ _ _ h => by cases h)⟩
  | succ n ih =>
    obtain ⟨ih0, ih1, ih2, ih3, ih4⟩ := ih
    exact ⟨tX0_takeOver_0 C hQ hr k b0 b1 h0 h1 n ih1, tX0_takeOver_1 C hQ hr k b0 b1 h0 h1 n ih2 ih3, tX0_takeOver_2 C hQ hr k b0 b1 h0 h1 n ih1, tX0_takeOver_3 C hQ hr k b0 b1 h0 h1 n ih4, tX0_takeOver_4 C hQ hr k b0 b1 h0 h1 n ih3⟩
theorem kX0_takeOver (l : Launch) (G : ra_G) (hj : ra_inj G) (k : Nat) (b0 : Nat) (b1 : Nat) (h0 : ra_N b0) (h1 : ra_S b1) (v2 : Int32) (w : ra_W) (r : Int32) (w1 : ra_W) (h : FX0_takeOver k b0 b1 v2 w = some (r, w1)) : ra_MV l G yX0_takeOver cX0_takeOver 6 none 2 43 [.ref (G.1 b0), .ref (G.1 b1), .int v2] w r w1 :=
  ra_entryV (own := RX0) (by decide) rfl (Nat.le_of_ble_eq_true rfl) hj (fun Z hl hG C hQ hr => by subst hl; subst hG; exact (tX0_takeOver C hQ hr k b0 b1 h0 h1 k).1 _ _ _ _ h)
theorem ysX0_takeOver : ra_YS yX0_takeOver cX0_takeOver 6 none 3 := ⟨⟨wd_4, wd_406, by decide, by decide, by decide⟩, wd_405⟩
/-- TrunkRadio$Air.serve -/
def fX0_serve (k : Nat) (b0 : Nat) (b1 : Nat) : Nat → Nat → Int32 → Int32 → Int32 → Int32 → ra_W → Option (Int32 × ra_W)
  | 0, _, _, _, _, _, _ => none
  | n + 1, L, v2, v3, v5, s0, w => match L with
    | 0 => if ra_in v2 7 then if (w (b1 + 4) (ra_ix v2)) = 1 then (fX0_serve k b0 b1 n 1 v2 0 0 1 w) else (fX0_serve k b0 b1 n 1 v2 0 0 0 w) else none
    | 1 => if ra_in v2 7 then ra_bind (FX4_talkerOf k b1 b0 (w (b0 + 3) (ra_ix v2)) w) (fun r2 w3 => if r2 = (-9) then (fX0_serve k b0 b1 n 2 v2 s0 0 0 w3) else (if s0 = 0 then (some (0, w3)) else (if ra_in r2 7 then if (w3 (b1 + 4) (ra_ix r2)) = 1 then (some (0, w3)) else (ra_bind (FX4_rest k b1 r2 w3) (fun _ w10 => fX0_serve k b0 b1 n 2 v2 s0 0 0 w10)) else none))) else none
    | 2 => ra_bind (FX0_sitesNeeded k b0 b1 v2 w) (fun r1 w2 => if v3 = 0 then (fX0_serve k b0 b1 n 3 v2 0 r1 0 w2) else (ra_bind (FX0_takeOver k b0 b1 r1 w2) (fun _ w6 => fX0_serve k b0 b1 n 3 v2 0 r1 0 w6)))
    | _ => ra_bind (FX4_fullSites k b1 b0 w) (fun r1 w2 => if (v5 &&& r1) = 0 then (ra_bind (FX4_enter k b1 v2 4 w2) (fun _ w6 => if ra_in v2 7 then some (0, (ra_st (ra_st w6 (b1 + 5) (ra_ix v2) v5) b1 7 (((ra_st w6 (b1 + 5) (ra_ix v2) v5) b1 7) + 1))) else none)) else (some (0, w2)))
theorem fX0_serve_0 (k : Nat) (b0 : Nat) (b1 : Nat) (n : Nat) (v2 : Int32) (v3 : Int32) (v5 : Int32) (s0 : Int32) (w : ra_W) : fX0_serve k b0 b1 (n + 1) 0 v2 v3 v5 s0 w = (if ra_in v2 7 then if (w (b1 + 4) (ra_ix v2)) = 1 then (fX0_serve k b0 b1 n 1 v2 0 0 1 w) else (fX0_serve k b0 b1 n 1 v2 0 0 0 w) else none) := rfl
theorem fX0_serve_1 (k : Nat) (b0 : Nat) (b1 : Nat) (n : Nat) (v2 : Int32) (v3 : Int32) (v5 : Int32) (s0 : Int32) (w : ra_W) : fX0_serve k b0 b1 (n + 1) 1 v2 v3 v5 s0 w = (if ra_in v2 7 then ra_bind (FX4_talkerOf k b1 b0 (w (b0 + 3) (ra_ix v2)) w) (fun r2 w3 => if r2 = (-9) then (fX0_serve k b0 b1 n 2 v2 s0 0 0 w3) else (if s0 = 0 then (some (0, w3)) else (if ra_in r2 7 then if (w3 (b1 + 4) (ra_ix r2)) = 1 then (some (0, w3)) else (ra_bind (FX4_rest k b1 r2 w3) (fun _ w10 => fX0_serve k b0 b1 n 2 v2 s0 0 0 w10)) else none))) else none) := rfl
theorem fX0_serve_2 (k : Nat) (b0 : Nat) (b1 : Nat) (n : Nat) (v2 : Int32) (v3 : Int32) (v5 : Int32) (s0 : Int32) (w : ra_W) : fX0_serve k b0 b1 (n + 1) 2 v2 v3 v5 s0 w = (ra_bind (FX0_sitesNeeded k b0 b1 v2 w) (fun r1 w2 => if v3 = 0 then (fX0_serve k b0 b1 n 3 v2 0 r1 0 w2) else (ra_bind (FX0_takeOver k b0 b1 r1 w2) (fun _ w6 => fX0_serve k b0 b1 n 3 v2 0 r1 0 w6)))) := rfl
theorem fX0_serve_3 (k : Nat) (b0 : Nat) (b1 : Nat) (n : Nat) (v2 : Int32) (v3 : Int32) (v5 : Int32) (s0 : Int32) (w : ra_W) : fX0_serve k b0 b1 (n + 1) 3 v2 v3 v5 s0 w = (ra_bind (FX4_fullSites k b1 b0 w) (fun r1 w2 => if (v5 &&& r1) = 0 then (ra_bind (FX4_enter k b1 v2 4 w2) (fun _ w6 => if ra_in v2 7 then some (0, (ra_st (ra_st w6 (b1 + 5) (ra_ix v2) v5) b1 7 (((ra_st w6 (b1 + 5) (ra_ix v2) v5) b1 7) + 1))) else none)) else (some (0, w2)))) := rfl
def FX0_serve (k : Nat) (b0 : Nat) (b1 : Nat) (v2 : Int32) (w : ra_W) : Option (Int32 × ra_W) := fX0_serve k b0 b1 k 0 v2 0 0 0 w
def pX0_serve_0 (Z : ra_Z) (r : Int32) (w1 : ra_W) (k : Nat) (b0 : Nat) (b1 : Nat) (n : Nat) : Prop := ∀ (v2 : Int32) (v3 : Int32) (v5 : Int32) (s0 : Int32) (w : ra_W), fX0_serve k b0 b1 n 0 v2 v3 v5 s0 w = some (r, w1) → ra_J Z 6 0 [(0, .ref ((zG Z).1 b0)), (1, .ref ((zG Z).1 b1)), (2, .int v2)] [] w
def pX0_serve_1 (Z : ra_Z) (r : Int32) (w1 : ra_W) (k : Nat) (b0 : Nat) (b1 : Nat) (n : Nat) : Prop := ∀ (v2 : Int32) (v3 : Int32) (v5 : Int32) (s0 : Int32) (w : ra_W), fX0_serve k b0 b1 n 1 v2 v3 v5 s0 w = some (r, w1) → ra_J Z 6 15 [(0, .ref ((zG Z).1 b0)), (1, .ref ((zG Z).1 b1)), (2, .int v2)] [.int s0] w
def pX0_serve_2 (Z : ra_Z) (r : Int32) (w1 : ra_W) (k : Nat) (b0 : Nat) (b1 : Nat) (n : Nat) : Prop := ∀ (v2 : Int32) (v3 : Int32) (v5 : Int32) (s0 : Int32) (w : ra_W), fX0_serve k b0 b1 n 2 v2 v3 v5 s0 w = some (r, w1) → ra_J Z 6 58 [(0, .ref ((zG Z).1 b0)), (1, .ref ((zG Z).1 b1)), (2, .int v2), (3, .int v3)] [] w
def pX0_serve_3 (Z : ra_Z) (r : Int32) (w1 : ra_W) (k : Nat) (b0 : Nat) (b1 : Nat) (n : Nat) : Prop := ∀ (v2 : Int32) (v3 : Int32) (v5 : Int32) (s0 : Int32) (w : ra_W), fX0_serve k b0 b1 n 3 v2 v3 v5 s0 w = some (r, w1) → ra_J Z 6 77 [(0, .ref ((zG Z).1 b0)), (1, .ref ((zG Z).1 b1)), (2, .int v2), (5, .int v5)] [] w
set_option maxHeartbeats 4000000 in
theorem tX0_serve_0 {Z : ra_Z} {r : Int32} {w1 : ra_W} (C : ra_C Z cX0_serve 6 RX0 3 68) (hQ : ra_QV Z r w1) (hr : (zmt Z).sig.returnType = none) (k : Nat) (b0 : Nat) (b1 : Nat) (h0 : ra_N b0) (h1 : ra_S b1) (n : Nat) (ih1 : pX0_serve_1 Z r w1 k b0 b1 n) : pX0_serve_0 Z r w1 k b0 b1 (n + 1) := by
  intro v2 v3 v5 s0 w hf
  rw [fX0_serve_0] at hf
  refine rg_aload_n (pc := 0) C 1 rfl rfl dX0_serve_0 ?_
  refine rg_get (pc := 1) C b1 4 3 h1.1 (by decide) rfl inlX4 (by decide) wd_140 rfl dX0_serve_1 ?_
  refine rg_iload_n (pc := 4) C 2 rfl rfl dX0_serve_4 ?_
  obtain ⟨g1, hf⟩ := ra_gd hf
  refine rg_iald (pc := 5) (j := (ra_ix v2)) C (b1 + 4) h1.2.2.2.2.1 rfl g1 dX0_serve_5 ?_
  refine rg_iconst (pc := 6) (v := 1) C dX0_serve_6 (by decide) ?_
  refine rg_icmp_ne (pc := 7) (tgt := 14) C dX0_serve_7 (by decide) (fun c2 => ?_) (fun c2 => ?_)
  · replace hf := ra_f hf c2
    refine rg_iconst (pc := 14) (v := 0) C dX0_serve_14 (by decide) ?_
    exact ih1 _ _ _ _ _ hf
  · replace hf := ra_t hf c2
    refine rg_iconst (pc := 10) (v := 1) C dX0_serve_10 (by decide) ?_
    refine rg_goto (pc := 11) (tgt := 15) C dX0_serve_11 (by decide) ?_
    exact ih1 _ _ _ _ _ hf
set_option maxHeartbeats 4000000 in
theorem tX0_serve_1 {Z : ra_Z} {r : Int32} {w1 : ra_W} (C : ra_C Z cX0_serve 6 RX0 3 68) (hQ : ra_QV Z r w1) (hr : (zmt Z).sig.returnType = none) (k : Nat) (b0 : Nat) (b1 : Nat) (h0 : ra_N b0) (h1 : ra_S b1) (n : Nat) (ih2 : pX0_serve_2 Z r w1 k b0 b1 n) : pX0_serve_1 Z r w1 k b0 b1 (n + 1) := by
  intro v2 v3 v5 s0 w hf
  rw [fX0_serve_1] at hf
  refine rg_istore_n (pc := 15) (lv' := [(0, .ref ((zG Z).1 b0)), (1, .ref ((zG Z).1 b1)), (2, .int v2), (3, .int s0)]) C [1, 2, 3, 0] rfl rfl (by decide) dX0_serve_15 ?_
  refine rg_aload_n (pc := 16) C 1 rfl rfl dX0_serve_16 ?_
  refine rg_aload_n (pc := 17) C 0 rfl rfl dX0_serve_17 ?_
  refine rg_aload_n (pc := 18) C 0 rfl rfl dX0_serve_18 ?_
  refine rg_get (pc := 19) C b0 2 5 h0.1 (by decide) rfl inlX2 (by decide) wd_87 rfl dX0_serve_19 ?_
  refine rg_iload_n (pc := 22) C 2 rfl rfl dX0_serve_22 ?_
  obtain ⟨g1, hf⟩ := ra_gd hf
  refine rg_iald (pc := 23) (j := (ra_ix v2)) C (b0 + 3) h0.2.2.2.1 rfl g1 dX0_serve_23 ?_
  obtain ⟨r2, w3, e4, hf⟩ := ra_bd hf
  refine rg_callVI (pc := 24) (As := [.ref ((zG Z).1 b0), .int (w (b0 + 3) (ra_ix v2))]) (st := []) C (kX4_talkerOf (zl Z) (zG Z) C.hj k b1 b0 h1 h0 _ _ _ _ e4) h1.1 (by decide) rfl ysX4_talkerOf rfl wd_397 ⟨Nat.le_of_ble_eq_true rfl, Nat.le_of_ble_eq_true rfl⟩ rfl (Nat.le_of_ble_eq_true rfl) dX0_serve_24 ?_
  refine rg_istore (pc := 27) (lv' := [(0, .ref ((zG Z).1 b0)), (1, .ref ((zG Z).1 b1)), (2, .int v2), (3, .int s0), (4, .int r2)]) C [1, 2, 3, 4, 0] rfl (by decide) dX0_serve_27 ?_
  refine rg_iload (pc := 29) C 4 rfl dX0_serve_29 ?_
  refine rg_bipush (pc := 31) (v := (-9)) C dX0_serve_31 (by decide) ?_
  refine rg_icmp_eq (pc := 33) (tgt := 58) C dX0_serve_33 (by decide) (fun c5 => ?_) (fun c5 => ?_)
  · replace hf := ra_t hf c5
    refine rg_sub [0, 1, 2, 3] rfl ?_
    exact ih2 _ _ _ _ _ hf
  · replace hf := ra_f hf c5
    refine rg_iload_n (pc := 36) C 3 rfl rfl dX0_serve_36 ?_
    refine rg_if_eq (pc := 37) (tgt := 51) C dX0_serve_37 (by decide) (fun c6 => ?_) (fun c6 => ?_)
    · replace hf := ra_t hf c6
      exact rg_vret (pc := 51) C hQ hr hf dX0_serve_51
    · replace hf := ra_f hf c6
      refine rg_aload_n (pc := 40) C 1 rfl rfl dX0_serve_40 ?_
      refine rg_get (pc := 41) C b1 4 3 h1.1 (by decide) rfl inlX4 (by decide) wd_140 rfl dX0_serve_41 ?_
      refine rg_iload (pc := 44) C 4 rfl dX0_serve_44 ?_
      obtain ⟨g7, hf⟩ := ra_gd hf
      refine rg_iald (pc := 46) (j := (ra_ix r2)) C (b1 + 4) h1.2.2.2.2.1 rfl g7 dX0_serve_46 ?_
      refine rg_iconst (pc := 47) (v := 1) C dX0_serve_47 (by decide) ?_
      refine rg_icmp_ne (pc := 48) (tgt := 52) C dX0_serve_48 (by decide) (fun c8 => ?_) (fun c8 => ?_)
      · replace hf := ra_f hf c8
        refine rg_aload_n (pc := 52) C 1 rfl rfl dX0_serve_52 ?_
        refine rg_iload (pc := 53) C 4 rfl dX0_serve_53 ?_
        obtain ⟨r9, w10, e11, hf⟩ := ra_bd hf
        refine rg_callVV (pc := 55) (As := [.int r2]) (st := []) C (kX4_rest (zl Z) (zG Z) C.hj k b1 h1 _ _ _ _ e11) h1.1 (by decide) rfl ysX4_rest rfl wd_386 ⟨Nat.le_of_ble_eq_true rfl, Nat.le_of_ble_eq_true rfl⟩ rfl (Nat.le_of_ble_eq_true rfl) dX0_serve_55 ?_
        refine rg_sub [0, 1, 2, 3] rfl ?_
        exact ih2 _ _ _ _ _ hf
      · replace hf := ra_t hf c8
        exact rg_vret (pc := 51) C hQ hr hf dX0_serve_51
set_option maxHeartbeats 4000000 in
theorem tX0_serve_2 {Z : ra_Z} {r : Int32} {w1 : ra_W} (C : ra_C Z cX0_serve 6 RX0 3 68) (hQ : ra_QV Z r w1) (hr : (zmt Z).sig.returnType = none) (k : Nat) (b0 : Nat) (b1 : Nat) (h0 : ra_N b0) (h1 : ra_S b1) (n : Nat) (ih3 : pX0_serve_3 Z r w1 k b0 b1 n) : pX0_serve_2 Z r w1 k b0 b1 (n + 1) := by
  intro v2 v3 v5 s0 w hf
  rw [fX0_serve_2] at hf
  refine rg_aload_n (pc := 58) C 0 rfl rfl dX0_serve_58 ?_
  refine rg_aload_n (pc := 59) C 1 rfl rfl dX0_serve_59 ?_
  refine rg_iload_n (pc := 60) C 2 rfl rfl dX0_serve_60 ?_
  obtain ⟨r1, w2, e3, hf⟩ := ra_bd hf
  refine rg_callSI (pc := 61) (As := [.ref ((zG Z).1 b0), .ref ((zG Z).1 b1), .int v2]) (st := []) C (kX0_sitesNeeded (zl Z) (zG Z) C.hj k b0 b1 h0 h1 _ _ _ _ e3) ysX0_sitesNeeded rfl wd_401 ⟨Nat.le_of_ble_eq_true rfl, Nat.le_of_ble_eq_true rfl⟩ rfl (Nat.le_of_ble_eq_true rfl) dX0_serve_61 ?_
  refine rg_istore (pc := 64) (lv' := [(0, .ref ((zG Z).1 b0)), (1, .ref ((zG Z).1 b1)), (2, .int v2), (3, .int v3), (5, .int r1)]) C [1, 2, 3, 4, 0] rfl (by decide) dX0_serve_64 ?_
  refine rg_iload_n (pc := 66) C 3 rfl rfl dX0_serve_66 ?_
  refine rg_if_eq (pc := 67) (tgt := 77) C dX0_serve_67 (by decide) (fun c4 => ?_) (fun c4 => ?_)
  · replace hf := ra_t hf c4
    refine rg_sub [0, 1, 2, 4] rfl ?_
    exact ih3 _ _ _ _ _ hf
  · replace hf := ra_f hf c4
    refine rg_aload_n (pc := 70) C 0 rfl rfl dX0_serve_70 ?_
    refine rg_aload_n (pc := 71) C 1 rfl rfl dX0_serve_71 ?_
    refine rg_iload (pc := 72) C 4 rfl dX0_serve_72 ?_
    obtain ⟨r5, w6, e7, hf⟩ := ra_bd hf
    refine rg_callSV (pc := 74) (As := [.ref ((zG Z).1 b0), .ref ((zG Z).1 b1), .int r1]) (st := []) C (kX0_takeOver (zl Z) (zG Z) C.hj k b0 b1 h0 h1 _ _ _ _ e7) ysX0_takeOver rfl wd_404 ⟨Nat.le_of_ble_eq_true rfl, Nat.le_of_ble_eq_true rfl⟩ rfl (Nat.le_of_ble_eq_true rfl) dX0_serve_74 ?_
    refine rg_sub [0, 1, 2, 4] rfl ?_
    exact ih3 _ _ _ _ _ hf
set_option maxHeartbeats 4000000 in
theorem tX0_serve_3 {Z : ra_Z} {r : Int32} {w1 : ra_W} (C : ra_C Z cX0_serve 6 RX0 3 68) (hQ : ra_QV Z r w1) (hr : (zmt Z).sig.returnType = none) (k : Nat) (b0 : Nat) (b1 : Nat) (h0 : ra_N b0) (h1 : ra_S b1) (n : Nat) : pX0_serve_3 Z r w1 k b0 b1 (n + 1) := by
  intro v2 v3 v5 s0 w hf
  rw [fX0_serve_3] at hf
  refine rg_iload (pc := 77) C 3 rfl dX0_serve_77 ?_
  refine rg_aload_n (pc := 79) C 1 rfl rfl dX0_serve_79 ?_
  refine rg_aload_n (pc := 80) C 0 rfl rfl dX0_serve_80 ?_
  obtain ⟨r1, w2, e3, hf⟩ := ra_bd hf
  refine rg_callVI (pc := 81) (As := [.ref ((zG Z).1 b0)]) (st := [.int v5]) C (kX4_fullSites (zl Z) (zG Z) C.hj k b1 b0 h1 h0 _ _ _ e3) h1.1 (by decide) rfl ysX4_fullSites rfl wd_407 ⟨Nat.le_of_ble_eq_true rfl, Nat.le_of_ble_eq_true rfl⟩ rfl (Nat.le_of_ble_eq_true rfl) dX0_serve_81 ?_
  refine rg_iand (pc := 84) C dX0_serve_84 ?_
  refine rg_if_ne (pc := 85) (tgt := 112) C dX0_serve_85 (by decide) (fun c4 => ?_) (fun c4 => ?_)
  · replace hf := ra_f hf c4
    exact rg_vret (pc := 112) C hQ hr hf dX0_serve_112
  · replace hf := ra_t hf c4
    refine rg_aload_n (pc := 88) C 1 rfl rfl dX0_serve_88 ?_
    refine rg_iload_n (pc := 89) C 2 rfl rfl dX0_serve_89 ?_
    refine rg_iconst (pc := 90) (v := 4) C dX0_serve_90 (by decide) ?_
    obtain ⟨r5, w6, e7, hf⟩ := ra_bd hf
    refine rg_callVV (pc := 91) (As := [.int v2, .int 4]) (st := []) C (kX4_enter (zl Z) (zG Z) C.hj k b1 h1 _ _ _ _ _ e7) h1.1 (by decide) rfl ysX4_enter rfl wd_367 ⟨Nat.le_of_ble_eq_true rfl, Nat.le_of_ble_eq_true rfl⟩ rfl (Nat.le_of_ble_eq_true rfl) dX0_serve_91 ?_
    refine rg_aload_n (pc := 94) C 1 rfl rfl dX0_serve_94 ?_
    refine rg_get (pc := 95) C b1 4 4 h1.1 (by decide) rfl inlX4 (by decide) wd_144 rfl dX0_serve_95 ?_
    refine rg_iload_n (pc := 98) C 2 rfl rfl dX0_serve_98 ?_
    refine rg_iload (pc := 99) C 3 rfl dX0_serve_99 ?_
    obtain ⟨g8, hf⟩ := ra_gd hf
    refine rg_iast (pc := 101) (j := (ra_ix v2)) C (b1 + 5) h1.2.2.2.2.2.1 rfl g8 dX0_serve_101 ?_
    refine rg_aload_n (pc := 102) C 1 rfl rfl dX0_serve_102 ?_
    refine rg_dup (pc := 103) C rfl dX0_serve_103 ?_
    refine rg_get (pc := 104) C b1 4 7 h1.1 (by decide) rfl inlX4 (by decide) wd_152 rfl dX0_serve_104 ?_
    refine rg_iconst (pc := 107) (v := 1) C dX0_serve_107 (by decide) ?_
    refine rg_iadd (pc := 108) C dX0_serve_108 ?_
    refine rg_put (pc := 109) C b1 4 7 h1.1 (by decide) rfl inlX4 tyX4 tyX4_ok nmX4 (by decide) wd_152 rfl rfl rfl (Nat.le_of_ble_eq_true rfl) rfl dX0_serve_109 ?_
    exact rg_vret (pc := 112) C hQ hr hf dX0_serve_112
theorem tX0_serve {Z : ra_Z} {r : Int32} {w1 : ra_W} (C : ra_C Z cX0_serve 6 RX0 3 68) (hQ : ra_QV Z r w1) (hr : (zmt Z).sig.returnType = none) (k : Nat) (b0 : Nat) (b1 : Nat) (h0 : ra_N b0) (h1 : ra_S b1) : ∀ n : Nat, pX0_serve_0 Z r w1 k b0 b1 n ∧ pX0_serve_1 Z r w1 k b0 b1 n ∧ pX0_serve_2 Z r w1 k b0 b1 n ∧ pX0_serve_3 Z r w1 k b0 b1 n := by
  intro n
  induction n with
  | zero => exact ⟨(fun _ _ _ _ _ h => by cases h), (fun _ _ _ _ _ h => by cases h), (fun _ _ _ _ _ h => by cases h), (fun _ _ _ _ _ h => by cases h)⟩
  | succ n ih =>
    obtain ⟨ih0, ih1, ih2, ih3⟩ := ih
    exact ⟨tX0_serve_0 C hQ hr k b0 b1 h0 h1 n ih1, tX0_serve_1 C hQ hr k b0 b1 h0 h1 n ih2, tX0_serve_2 C hQ hr k b0 b1 h0 h1 n ih3, tX0_serve_3 C hQ hr k b0 b1 h0 h1 n⟩
theorem kX0_serve (l : Launch) (G : ra_G) (hj : ra_inj G) (k : Nat) (b0 : Nat) (b1 : Nat) (h0 : ra_N b0) (h1 : ra_S b1) (v2 : Int32) (w : ra_W) (r : Int32) (w1 : ra_W) (h : FX0_serve k b0 b1 v2 w = some (r, w1)) : ra_MV l G yX0_serve cX0_serve 6 none 3 68 [.ref (G.1 b0), .ref (G.1 b1), .int v2] w r w1 :=
  ra_entryV (own := RX0) (by decide) rfl (Nat.le_of_ble_eq_true rfl) hj (fun Z hl hG C hQ hr => by subst hl; subst hG; exact (tX0_serve C hQ hr k b0 b1 h0 h1 k).1 _ _ _ _ _ h)
theorem ysX0_serve : ra_YS yX0_serve cX0_serve 6 none 3 := ⟨⟨wd_4, wd_396, by decide, by decide, by decide⟩, wd_395⟩
