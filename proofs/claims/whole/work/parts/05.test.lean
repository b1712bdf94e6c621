/-- TrunkRadio$State.hasControl -/
def fX4_hasControl (k : Nat) (b0 : Nat) : Nat → Nat → Int32 → ra_W → Option (Int32 × ra_W)
  | 0, _, _, _ => none
  | n + 1, L, v1, w => match L with
    | _ => if ra_in v1 2 then if (w (b0 + 6) (ra_ix v1)) = (-1) then (some (1, w)) else (some (0, w)) else none
theorem fX4_hasControl_0 (k : Nat) (b0 : Nat) (n : Nat) (v1 : Int32) (w : ra_W) : fX4_hasControl k b0 (n + 1) 0 v1 w = (if ra_in v1 2 then if (w (b0 + 6) (ra_ix v1)) = (-1) then (some (1, w)) else (some (0, w)) else none) := rfl
def FX4_hasControl (k : Nat) (b0 : Nat) (v1 : Int32) (w : ra_W) : Option (Int32 × ra_W) := fX4_hasControl k b0 k 0 v1 w
def pX4_hasControl_0 (Z : ra_Z) (r : Int32) (w1 : ra_W) (k : Nat) (b0 : Nat) (n : Nat) : Prop := ∀ (v1 : Int32) (w : ra_W), fX4_hasControl k b0 n 0 v1 w = some (r, w1) → ra_J Z 2 0 [(0, .ref ((zG Z).1 b0)), (1, .int v1)] [] w
set_option maxHeartbeats 4000000 in
theorem tX4_hasControl_0 {Z : ra_Z} {r : Int32} {w1 : ra_W} (C : ra_C Z cX4_hasControl 2 RX4 0 0) (hQ : ra_QI Z r w1) (hr : (zmt Z).sig.returnType = (some .boolean)) (k : Nat) (b0 : Nat) (h0 : ra_S b0) (n : Nat) : pX4_hasControl_0 Z r w1 k b0 (n + 1) := by
  intro v1 w hf
  rw [fX4_hasControl_0] at hf
  refine rg_aload_n (pc := 0) C 0 rfl rfl dX4_hasControl_0 ?_
  refine rg_get (pc := 1) C b0 4 5 h0.1 (by decide) rfl inlX4 (by decide) wd_145 rfl dX4_hasControl_1 ?_
  refine rg_iload_n (pc := 4) C 1 rfl rfl dX4_hasControl_4 ?_
  obtain ⟨g1, hf⟩ := ra_gd hf
  refine rg_iald (pc := 5) (j := (ra_ix v1)) C (b0 + 6) h0.2.2.2.2.2.2 rfl g1 dX4_hasControl_5 ?_
  refine rg_iconst (pc := 6) (v := (-1)) C dX4_hasControl_6 (by decide) ?_
  refine rg_icmp_ne (pc := 7) (tgt := 14) C dX4_hasControl_7 (by decide) (fun c2 => ?_) (fun c2 => ?_)
  · replace hf := ra_f hf c2
    refine rg_iconst (pc := 14) (v := 0) C dX4_hasControl_14 (by decide) ?_
    exact rg_zret (pc := 15) C hQ hr (by decide) hf dX4_hasControl_15
  · replace hf := ra_t hf c2
    refine rg_iconst (pc := 10) (v := 1) C dX4_hasControl_10 (by decide) ?_
    refine rg_goto (pc := 11) (tgt := 15) C dX4_hasControl_11 (by decide) ?_
    exact rg_zret (pc := 15) C hQ hr (by decide) hf dX4_hasControl_15
theorem tX4_hasControl {Z : ra_Z} {r : Int32} {w1 : ra_W} (C : ra_C Z cX4_hasControl 2 RX4 0 0) (hQ : ra_QI Z r w1) (hr : (zmt Z).sig.returnType = (some .boolean)) (k : Nat) (b0 : Nat) (h0 : ra_S b0) : ∀ n : Nat, pX4_hasControl_0 Z r w1 k b0 n := by
  intro n
  induction n with
  | zero => exact fun _ _ h => by cases h
  | succ n ih => exact tX4_hasControl_0 C hQ hr k b0 h0 n
theorem cX4_hasControl (l : Launch) (G : ra_G) (hj : ra_inj G) (k : Nat) (b0 : Nat) (h0 : ra_S b0) (v1 : Int32) (w : ra_W) (r : Int32) (w1 : ra_W) (h : FX4_hasControl k b0 v1 w = some (r, w1)) : ra_MI l G yX4_hasControl cX4_hasControl 2 (some .boolean) 0 0 [.ref (G.1 b0), .int v1] w r w1 :=
  ra_entryI (own := RX4) (by decide) rfl (Nat.le_of_ble_eq_true rfl) hj (fun Z hl hG C hQ hr => by subst hl; subst hG; exact (tX4_hasControl C hQ hr k b0 h0 k) _ _ h)
theorem ysX4_hasControl : ra_YV yX4_hasControl cX4_hasControl 2 (some .boolean) 1 RX4 := ⟨⟨wd_5, wd_357, by decide, by decide, by decide⟩, wd_355, wd_356⟩
/-- TrunkRadio$Air.isSentAt -/
def fX0_isSentAt (k : Nat) (b0 : Nat) : Nat → Nat → Int32 → Int32 → ra_W → Option (Int32 × ra_W)
  | 0, _, _, _, _ => none
  | n + 1, L, v1, v2, w => match L with
    | _ => if ra_in v2 7 then if (w (b0 + 2) (ra_ix v2)) = 1 then (if (w (b0 + 1) (ra_ix v2)) = v1 then (some (1, w)) else (some (0, w))) else (some (0, w)) else none
theorem fX0_isSentAt_0 (k : Nat) (b0 : Nat) (n : Nat) (v1 : Int32) (v2 : Int32) (w : ra_W) : fX0_isSentAt k b0 (n + 1) 0 v1 v2 w = (if ra_in v2 7 then if (w (b0 + 2) (ra_ix v2)) = 1 then (if (w (b0 + 1) (ra_ix v2)) = v1 then (some (1, w)) else (some (0, w))) else (some (0, w)) else none) := rfl
def FX0_isSentAt (k : Nat) (b0 : Nat) (v1 : Int32) (v2 : Int32) (w : ra_W) : Option (Int32 × ra_W) := fX0_isSentAt k b0 k 0 v1 v2 w
def pX0_isSentAt_0 (Z : ra_Z) (r : Int32) (w1 : ra_W) (k : Nat) (b0 : Nat) (n : Nat) : Prop := ∀ (v1 : Int32) (v2 : Int32) (w : ra_W), fX0_isSentAt k b0 n 0 v1 v2 w = some (r, w1) → ra_J Z 3 0 [(0, .ref ((zG Z).1 b0)), (1, .int v1), (2, .int v2)] [] w
set_option maxHeartbeats 4000000 in
theorem tX0_isSentAt_0 {Z : ra_Z} {r : Int32} {w1 : ra_W} (C : ra_C Z cX0_isSentAt 3 RX0 0 0) (hQ : ra_QI Z r w1) (hr : (zmt Z).sig.returnType = (some .boolean)) (k : Nat) (b0 : Nat) (h0 : ra_S b0) (n : Nat) : pX0_isSentAt_0 Z r w1 k b0 (n + 1) := by
  intro v1 v2 w hf
  rw [fX0_isSentAt_0] at hf
  refine rg_aload_n (pc := 0) C 0 rfl rfl dX0_isSentAt_0 ?_
  refine rg_get (pc := 1) C b0 4 1 h0.1 (by decide) rfl inlX4 (by decide) wd_134 rfl dX0_isSentAt_1 ?_
  refine rg_iload_n (pc := 4) C 2 rfl rfl dX0_isSentAt_4 ?_
  obtain ⟨g1, hf⟩ := ra_gd hf
  refine rg_iald (pc := 5) (j := (ra_ix v2)) C (b0 + 2) h0.2.2.1 rfl g1 dX0_isSentAt_5 ?_
  refine rg_iconst (pc := 6) (v := 1) C dX0_isSentAt_6 (by decide) ?_
  refine rg_icmp_ne (pc := 7) (tgt := 24) C dX0_isSentAt_7 (by decide) (fun c2 => ?_) (fun c2 => ?_)
  · replace hf := ra_f hf c2
    refine rg_iconst (pc := 24) (v := 0) C dX0_isSentAt_24 (by decide) ?_
    exact rg_zret (pc := 25) C hQ hr (by decide) hf dX0_isSentAt_25
  · replace hf := ra_t hf c2
    refine rg_aload_n (pc := 10) C 0 rfl rfl dX0_isSentAt_10 ?_
    refine rg_get (pc := 11) C b0 4 0 h0.1 (by decide) rfl inlX4 (by decide) wd_131 rfl dX0_isSentAt_11 ?_
    refine rg_iload_n (pc := 14) C 2 rfl rfl dX0_isSentAt_14 ?_
    refine rg_iald (pc := 15) (j := (ra_ix v2)) C (b0 + 1) h0.2.1 rfl g1 dX0_isSentAt_15 ?_
    refine rg_iload_n (pc := 16) C 1 rfl rfl dX0_isSentAt_16 ?_
    refine rg_icmp_ne (pc := 17) (tgt := 24) C dX0_isSentAt_17 (by decide) (fun c3 => ?_) (fun c3 => ?_)
    · replace hf := ra_f hf c3
      refine rg_iconst (pc := 24) (v := 0) C dX0_isSentAt_24 (by decide) ?_
      exact rg_zret (pc := 25) C hQ hr (by decide) hf dX0_isSentAt_25
    · replace hf := ra_t hf c3
      refine rg_iconst (pc := 20) (v := 1) C dX0_isSentAt_20 (by decide) ?_
      refine rg_goto (pc := 21) (tgt := 25) C dX0_isSentAt_21 (by decide) ?_
      exact rg_zret (pc := 25) C hQ hr (by decide) hf dX0_isSentAt_25
theorem tX0_isSentAt {Z : ra_Z} {r : Int32} {w1 : ra_W} (C : ra_C Z cX0_isSentAt 3 RX0 0 0) (hQ : ra_QI Z r w1) (hr : (zmt Z).sig.returnType = (some .boolean)) (k : Nat) (b0 : Nat) (h0 : ra_S b0) : ∀ n : Nat, pX0_isSentAt_0 Z r w1 k b0 n := by
  intro n
  induction n with
  | zero => exact fun _ _ _ h => by cases h
  | succ n ih => exact tX0_isSentAt_0 C hQ hr k b0 h0 n
theorem cX0_isSentAt (l : Launch) (G : ra_G) (hj : ra_inj G) (k : Nat) (b0 : Nat) (h0 : ra_S b0) (v1 : Int32) (v2 : Int32) (w : ra_W) (r : Int32) (w1 : ra_W) (h : FX0_isSentAt k b0 v1 v2 w = some (r, w1)) : ra_MI l G yX0_isSentAt cX0_isSentAt 3 (some .boolean) 0 0 [.ref (G.1 b0), .int v1, .int v2] w r w1 :=
  ra_entryI (own := RX0) (by decide) rfl (Nat.le_of_ble_eq_true rfl) hj (fun Z hl hG C hQ hr => by subst hl; subst hG; exact (tX0_isSentAt C hQ hr k b0 h0 k) _ _ _ h)
theorem ysX0_isSentAt : ra_YS yX0_isSentAt cX0_isSentAt 3 (some .boolean) 3 := ⟨⟨wd_4, wd_366, by decide, by decide, by decide⟩, wd_365⟩
/-- TrunkRadio$Air.heardAt -/
def fX0_heardAt (k : Nat) (b0 : Nat) (b1 : Nat) : Nat → Nat → Int32 → Int32 → Int32 → Int32 → ra_W → Option (Int32 × ra_W)
  | 0, _, _, _, _, _, _ => none
  | n + 1, L, v2, v3, v4, v5, w => match L with
    | 0 => fX0_heardAt k b0 b1 n 1 v2 0 (-9) 0 w
    | 1 => if (w b0 0) ≤ v5 then (if v3 = 1 then (some (v4, w)) else (some ((-9), w))) else (ra_bind (FX0_isSentAt k b1 v2 v5 w) (fun r3 w4 => if r3 = 0 then (fX0_heardAt k b0 b1 n 2 v2 v3 v4 v5 w4) else (if ra_in v5 7 then if (w4 (b1 + 4) (ra_ix v5)) = 1 then (some (v5, w4)) else (fX0_heardAt k b0 b1 n 2 v2 (v3 + 1) v5 v5 w4) else none)))
    | _ => fX0_heardAt k b0 b1 n 1 v2 v3 v4 (v5 + 1) w
theorem fX0_heardAt_0 (k : Nat) (b0 : Nat) (b1 : Nat) (n : Nat) (v2 : Int32) (v3 : Int32) (v4 : Int32) (v5 : Int32) (w : ra_W) : fX0_heardAt k b0 b1 (n + 1) 0 v2 v3 v4 v5 w = (fX0_heardAt k b0 b1 n 1 v2 0 (-9) 0 w) := rfl
theorem fX0_heardAt_1 (k : Nat) (b0 : Nat) (b1 : Nat) (n : Nat) (v2 : Int32) (v3 : Int32) (v4 : Int32) (v5 : Int32) (w : ra_W) : fX0_heardAt k b0 b1 (n + 1) 1 v2 v3 v4 v5 w = (if (w b0 0) ≤ v5 then (if v3 = 1 then (some (v4, w)) else (some ((-9), w))) else (ra_bind (FX0_isSentAt k b1 v2 v5 w) (fun r3 w4 => if r3 = 0 then (fX0_heardAt k b0 b1 n 2 v2 v3 v4 v5 w4) else (if ra_in v5 7 then if (w4 (b1 + 4) (ra_ix v5)) = 1 then (some (v5, w4)) else (fX0_heardAt k b0 b1 n 2 v2 (v3 + 1) v5 v5 w4) else none)))) := rfl
theorem fX0_heardAt_2 (k : Nat) (b0 : Nat) (b1 : Nat) (n : Nat) (v2 : Int32) (v3 : Int32) (v4 : Int32) (v5 : Int32) (w : ra_W) : fX0_heardAt k b0 b1 (n + 1) 2 v2 v3 v4 v5 w = (fX0_heardAt k b0 b1 n 1 v2 v3 v4 (v5 + 1) w) := rfl
def FX0_heardAt (k : Nat) (b0 : Nat) (b1 : Nat) (v2 : Int32) (w : ra_W) : Option (Int32 × ra_W) := fX0_heardAt k b0 b1 k 0 v2 0 0 0 w
def pX0_heardAt_0 (Z : ra_Z) (r : Int32) (w1 : ra_W) (k : Nat) (b0 : Nat) (b1 : Nat) (n : Nat) : Prop := ∀ (v2 : Int32) (v3 : Int32) (v4 : Int32) (v5 : Int32) (w : ra_W), fX0_heardAt k b0 b1 n 0 v2 v3 v4 v5 w = some (r, w1) → ra_J Z 6 0 [(0, .ref ((zG Z).1 b0)), (1, .ref ((zG Z).1 b1)), (2, .int v2)] [] w
def pX0_heardAt_1 (Z : ra_Z) (r : Int32) (w1 : ra_W) (k : Nat) (b0 : Nat) (b1 : Nat) (n : Nat) : Prop := ∀ (v2 : Int32) (v3 : Int32) (v4 : Int32) (v5 : Int32) (w : ra_W), fX0_heardAt k b0 b1 n 1 v2 v3 v4 v5 w = some (r, w1) → ra_J Z 6 9 [(0, .ref ((zG Z).1 b0)), (1, .ref ((zG Z).1 b1)), (2, .int v2), (3, .int v3), (4, .int v4), (5, .int v5)] [] w
def pX0_heardAt_2 (Z : ra_Z) (r : Int32) (w1 : ra_W) (k : Nat) (b0 : Nat) (b1 : Nat) (n : Nat) : Prop := ∀ (v2 : Int32) (v3 : Int32) (v4 : Int32) (v5 : Int32) (w : ra_W), fX0_heardAt k b0 b1 n 2 v2 v3 v4 v5 w = some (r, w1) → ra_J Z 6 49 [(0, .ref ((zG Z).1 b0)), (1, .ref ((zG Z).1 b1)), (2, .int v2), (3, .int v3), (4, .int v4), (5, .int v5)] [] w
set_option maxHeartbeats 4000000 in
theorem tX0_heardAt_0 {Z : ra_Z} {r : Int32} {w1 : ra_W} (C : ra_C Z cX0_heardAt 6 RX0 1 22) (hQ : ra_QI Z r w1) (hr : (zmt Z).sig.returnType = (some .int)) (k : Nat) (b0 : Nat) (b1 : Nat) (h0 : ra_N b0) (h1 : ra_S b1) (n : Nat) (ih1 : pX0_heardAt_1 Z r w1 k b0 b1 n) : pX0_heardAt_0 Z r w1 k b0 b1 (n + 1) := by
  intro v2 v3 v4 v5 w hf
  rw [fX0_heardAt_0] at hf
  refine rg_iconst (pc := 0) (v := 0) C dX0_heardAt_0 (by decide) ?_
  refine rg_istore_n (pc := 1) (lv' := [(0, .ref ((zG Z).1 b0)), (1, .ref ((zG Z).1 b1)), (2, .int v2), (3, .int 0)]) C [1, 2, 3, 0] rfl rfl (by decide) dX0_heardAt_1 ?_
  refine rg_bipush (pc := 2) (v := (-9)) C dX0_heardAt_2 (by decide) ?_
  refine rg_istore (pc := 4) (lv' := [(0, .ref ((zG Z).1 b0)), (1, .ref ((zG Z).1 b1)), (2, .int v2), (3, .int 0), (4, .int (-9))]) C [1, 2, 3, 4, 0] rfl (by decide) dX0_heardAt_4 ?_
  refine rg_iconst (pc := 6) (v := 0) C dX0_heardAt_6 (by decide) ?_
  refine rg_istore (pc := 7) (lv' := [(0, .ref ((zG Z).1 b0)), (1, .ref ((zG Z).1 b1)), (2, .int v2), (3, .int 0), (4, .int (-9)), (5, .int 0)]) C [1, 2, 3, 4, 5, 0] rfl (by decide) dX0_heardAt_7 ?_
  exact ih1 _ _ _ _ _ hf
set_option maxHeartbeats 4000000 in
theorem tX0_heardAt_1 {Z : ra_Z} {r : Int32} {w1 : ra_W} (C : ra_C Z cX0_heardAt 6 RX0 1 22) (hQ : ra_QI Z r w1) (hr : (zmt Z).sig.returnType = (some .int)) (k : Nat) (b0 : Nat) (b1 : Nat) (h0 : ra_N b0) (h1 : ra_S b1) (n : Nat) (ih2 : pX0_heardAt_2 Z r w1 k b0 b1 n) : pX0_heardAt_1 Z r w1 k b0 b1 (n + 1) := by
  intro v2 v3 v4 v5 w hf
  rw [fX0_heardAt_1] at hf
  refine rg_iload (pc := 9) C 5 rfl dX0_heardAt_9 ?_
  refine rg_aload_n (pc := 11) C 0 rfl rfl dX0_heardAt_11 ?_
  refine rg_get (pc := 12) C b0 2 0 h0.1 (by decide) rfl inlX2 (by decide) wd_66 rfl dX0_heardAt_12 ?_
  refine rg_icmp_ge (pc := 15) (tgt := 55) C dX0_heardAt_15 (by decide) (fun c1 => ?_) (fun c1 => ?_)
  · replace hf := ra_t hf c1
    refine rg_iload_n (pc := 55) C 3 rfl rfl dX0_heardAt_55 ?_
    refine rg_iconst (pc := 56) (v := 1) C dX0_heardAt_56 (by decide) ?_
    refine rg_icmp_ne (pc := 57) (tgt := 65) C dX0_heardAt_57 (by decide) (fun c2 => ?_) (fun c2 => ?_)
    · replace hf := ra_f hf c2
      refine rg_bipush (pc := 65) (v := (-9)) C dX0_heardAt_65 (by decide) ?_
      exact rg_iret (pc := 67) C hQ hr hf dX0_heardAt_67
    · replace hf := ra_t hf c2
      refine rg_iload (pc := 60) C 4 rfl dX0_heardAt_60 ?_
      refine rg_goto (pc := 62) (tgt := 67) C dX0_heardAt_62 (by decide) ?_
      exact rg_iret (pc := 67) C hQ hr hf dX0_heardAt_67
  · replace hf := ra_f hf c1
    refine rg_aload_n (pc := 18) C 1 rfl rfl dX0_heardAt_18 ?_
    refine rg_iload_n (pc := 19) C 2 rfl rfl dX0_heardAt_19 ?_
    refine rg_iload (pc := 20) C 5 rfl dX0_heardAt_20 ?_
    obtain ⟨r3, w4, e5, hf⟩ := ra_bd hf
    refine rg_callSI (pc := 22) (As := [.ref ((zG Z).1 b1), .int v2, .int v5]) (st := []) C (cX0_isSentAt (zl Z) (zG Z) C.hj k b1 h1 _ _ _ _ _ e5) ysX0_isSentAt rfl wd_364 ⟨Nat.le_of_ble_eq_true rfl, Nat.le_of_ble_eq_true rfl⟩ rfl (Nat.le_of_ble_eq_true rfl) dX0_heardAt_22 ?_
    refine rg_if_eq (pc := 25) (tgt := 49) C dX0_heardAt_25 (by decide) (fun c6 => ?_) (fun c6 => ?_)
    · replace hf := ra_t hf c6
      exact ih2 _ _ _ _ _ hf
    · replace hf := ra_f hf c6
      refine rg_aload_n (pc := 28) C 1 rfl rfl dX0_heardAt_28 ?_
      refine rg_get (pc := 29) C b1 4 3 h1.1 (by decide) rfl inlX4 (by decide) wd_140 rfl dX0_heardAt_29 ?_
      refine rg_iload (pc := 32) C 5 rfl dX0_heardAt_32 ?_
      obtain ⟨g7, hf⟩ := ra_gd hf
      refine rg_iald (pc := 34) (j := (ra_ix v5)) C (b1 + 4) h1.2.2.2.2.1 rfl g7 dX0_heardAt_34 ?_
      refine rg_iconst (pc := 35) (v := 1) C dX0_heardAt_35 (by decide) ?_
      refine rg_icmp_ne (pc := 36) (tgt := 42) C dX0_heardAt_36 (by decide) (fun c8 => ?_) (fun c8 => ?_)
      · replace hf := ra_f hf c8
        refine rg_iinc (pc := 42) (v := (v3 + 1)) (lv' := [(0, .ref ((zG Z).1 b0)), (1, .ref ((zG Z).1 b1)), (2, .int v2), (3, .int (v3 + 1)), (4, .int v4), (5, .int v5)]) C 3 rfl [1, 2, 3, 0, 4, 5] rfl rfl (by decide) dX0_heardAt_42 ?_
        refine rg_iload (pc := 45) C 5 rfl dX0_heardAt_45 ?_
        refine rg_istore (pc := 47) (lv' := [(0, .ref ((zG Z).1 b0)), (1, .ref ((zG Z).1 b1)), (2, .int v2), (3, .int (v3 + 1)), (4, .int v5), (5, .int v5)]) C [1, 2, 3, 4, 0, 5] rfl (by decide) dX0_heardAt_47 ?_
        exact ih2 _ _ _ _ _ hf
      · replace hf := ra_t hf c8
        refine rg_iload (pc := 39) C 5 rfl dX0_heardAt_39 ?_
        exact rg_iret (pc := 41) C hQ hr hf dX0_heardAt_41
set_option maxHeartbeats 4000000 in
theorem tX0_heardAt_2 {Z : ra_Z} {r : Int32} {w1 : ra_W} (C : ra_C Z cX0_heardAt 6 RX0 1 22) (hQ : ra_QI Z r w1) (hr : (zmt Z).sig.returnType = (some .int)) (k : Nat) (b0 : Nat) (b1 : Nat) (h0 : ra_N b0) (h1 : ra_S b1) (n : Nat) (ih1 : pX0_heardAt_1 Z r w1 k b0 b1 n) : pX0_heardAt_2 Z r w1 k b0 b1 (n + 1) := by
  intro v2 v3 v4 v5 w hf
  rw [fX0_heardAt_2] at hf
  refine rg_iinc (pc := 49) (v := (v5 + 1)) (lv' := [(0, .ref ((zG Z).1 b0)), (1, .ref ((zG Z).1 b1)), (2, .int v2), (3, .int v3), (4, .int v4), (5, .int (v5 + 1))]) C 5 rfl [1, 2, 3, 4, 5, 0] rfl rfl (by decide) dX0_heardAt_49 ?_
  refine rg_goto (pc := 52) (tgt := 9) C dX0_heardAt_52 (by decide) ?_
  exact ih1 _ _ _ _ _ hf
theorem tX0_heardAt {Z : ra_Z} {r : Int32} {w1 : ra_W} (C : ra_C Z cX0_heardAt 6 RX0 1 22) (hQ : ra_QI Z r w1) (hr : (zmt Z).sig.returnType = (some .int)) (k : Nat) (b0 : Nat) (b1 : Nat) (h0 : ra_N b0) (h1 : ra_S b1) : ∀ n : Nat, pX0_heardAt_0 Z r w1 k b0 b1 n ∧ pX0_heardAt_1 Z r w1 k b0 b1 n ∧ pX0_heardAt_2 Z r w1 k b0 b1 n := by
  intro n
  induction n with
  | zero => exact ⟨fun _ _ _ _ _ h => by cases h, fun _ _ _ _ _ h => by cases h, fun _ _ _ _ _ h => by cases h⟩
  | succ n ih =>
    obtain ⟨ih0, ih1, ih2⟩ := ih
    exact ⟨tX0_heardAt_0 C hQ hr k b0 b1 h0 h1 n ih1, tX0_heardAt_1 C hQ hr k b0 b1 h0 h1 n ih2, tX0_heardAt_2 C hQ hr k b0 b1 h0 h1 n ih1⟩
theorem cX0_heardAt (l : Launch) (G : ra_G) (hj : ra_inj G) (k : Nat) (b0 : Nat) (b1 : Nat) (h0 : ra_N b0) (h1 : ra_S b1) (v2 : Int32) (w : ra_W) (r : Int32) (w1 : ra_W) (h : FX0_heardAt k b0 b1 v2 w = some (r, w1)) : ra_MI l G yX0_heardAt cX0_heardAt 6 (some .int) 1 22 [.ref (G.1 b0), .ref (G.1 b1), .int v2] w r w1 :=
  ra_entryI (own := RX0) (by decide) rfl (Nat.le_of_ble_eq_true rfl) hj (fun Z hl hG C hQ hr => by subst hl; subst hG; exact (tX0_heardAt C hQ hr k b0 b1 h0 h1 k).1 _ _ _ _ _ h)
theorem ysX0_heardAt : ra_YS yX0_heardAt cX0_heardAt 6 (some .int) 3 := ⟨⟨wd_4, wd_363, by decide, by decide, by decide⟩, wd_362⟩
/-- TrunkRadio$State.enter -/
def fX4_enter (k : Nat) (b0 : Nat) : Nat → Nat → Int32 → Int32 → ra_W → Option (Int32 × ra_W)
  | 0, _, _, _, _ => none
  | n + 1, L, v1, v2, w => match L with
    | _ => if ra_in v1 7 then some (0, (ra_st (ra_st w (b0 + 2) (ra_ix v1) v2) (b0 + 3) (ra_ix v1) 0)) else none
theorem fX4_enter_0 (k : Nat) (b0 : Nat) (n : Nat) (v1 : Int32) (v2 : Int32) (w : ra_W) : fX4_enter k b0 (n + 1) 0 v1 v2 w = (if ra_in v1 7 then some (0, (ra_st (ra_st w (b0 + 2) (ra_ix v1) v2) (b0 + 3) (ra_ix v1) 0)) else none) := rfl
def FX4_enter (k : Nat) (b0 : Nat) (v1 : Int32) (v2 : Int32) (w : ra_W) : Option (Int32 × ra_W) := fX4_enter k b0 k 0 v1 v2 w
def pX4_enter_0 (Z : ra_Z) (r : Int32) (w1 : ra_W) (k : Nat) (b0 : Nat) (n : Nat) : Prop := ∀ (v1 : Int32) (v2 : Int32) (w : ra_W), fX4_enter k b0 n 0 v1 v2 w = some (r, w1) → ra_J Z 3 0 [(0, .ref ((zG Z).1 b0)), (1, .int v1), (2, .int v2)] [] w
set_option maxHeartbeats 4000000 in
theorem tX4_enter_0 {Z : ra_Z} {r : Int32} {w1 : ra_W} (C : ra_C Z cX4_enter 3 RX4 0 0) (hQ : ra_QV Z r w1) (hr : (zmt Z).sig.returnType = none) (k : Nat) (b0 : Nat) (h0 : ra_S b0) (n : Nat) : pX4_enter_0 Z r w1 k b0 (n + 1) := by
  intro v1 v2 w hf
  rw [fX4_enter_0] at hf
  refine rg_aload_n (pc := 0) C 0 rfl rfl dX4_enter_0 ?_
  refine rg_get (pc := 1) C b0 4 1 h0.1 (by decide) rfl inlX4 (by decide) wd_133 rfl dX4_enter_1 ?_
  refine rg_iload_n (pc := 4) C 1 rfl rfl dX4_enter_4 ?_
  refine rg_iload_n (pc := 5) C 2 rfl rfl dX4_enter_5 ?_
  obtain ⟨g1, hf⟩ := ra_gd hf
  refine rg_iast (pc := 6) (j := (ra_ix v1)) C (b0 + 2) h0.2.2.1 rfl g1 dX4_enter_6 ?_
  refine rg_aload_n (pc := 7) C 0 rfl rfl dX4_enter_7 ?_
  refine rg_get (pc := 8) C b0 4 2 h0.1 (by decide) rfl inlX4 (by decide) wd_136 rfl dX4_enter_8 ?_
  refine rg_iload_n (pc := 11) C 1 rfl rfl dX4_enter_11 ?_
  refine rg_iconst (pc := 12) (v := 0) C dX4_enter_12 (by decide) ?_
  refine rg_iast (pc := 13) (j := (ra_ix v1)) C (b0 + 3) h0.2.2.2.1 rfl g1 dX4_enter_13 ?_
  exact rg_vret (pc := 14) C hQ hr hf dX4_enter_14
theorem tX4_enter {Z : ra_Z} {r : Int32} {w1 : ra_W} (C : ra_C Z cX4_enter 3 RX4 0 0) (hQ : ra_QV Z r w1) (hr : (zmt Z).sig.returnType = none) (k : Nat) (b0 : Nat) (h0 : ra_S b0) : ∀ n : Nat, pX4_enter_0 Z r w1 k b0 n := by
  intro n
  induction n with
  | zero => exact fun _ _ _ h => by cases h
  | succ n ih => exact tX4_enter_0 C hQ hr k b0 h0 n
theorem cX4_enter (l : Launch) (G : ra_G) (hj : ra_inj G) (k : Nat) (b0 : Nat) (h0 : ra_S b0) (v1 : Int32) (v2 : Int32) (w : ra_W) (r : Int32) (w1 : ra_W) (h : FX4_enter k b0 v1 v2 w = some (r, w1)) : ra_MV l G yX4_enter cX4_enter 3 none 0 0 [.ref (G.1 b0), .int v1, .int v2] w r w1 :=
  ra_entryV (own := RX4) (by decide) rfl (Nat.le_of_ble_eq_true rfl) hj (fun Z hl hG C hQ hr => by subst hl; subst hG; exact (tX4_enter C hQ hr k b0 h0 k) _ _ _ h)
theorem ysX4_enter : ra_YV yX4_enter cX4_enter 3 none 2 RX4 := ⟨⟨wd_5, wd_330, by decide, by decide, by decide⟩, wd_328, wd_329⟩
/-- TrunkRadio$Air.hear -/
def fX0_hear (k : Nat) (b0 : Nat) (b1 : Nat) : Nat → Nat → Int32 → Int32 → Int32 → ra_W → Option (Int32 × ra_W)
  | 0, _, _, _, _, _ => none
  | n + 1, L, v2, v3, v4, w => match L with
    | 0 => ra_bind (FX0_heardAt k b0 b1 v2 w) (fun r1 w2 => fX0_hear k b0 b1 n 1 v2 r1 0 w2)
    | 1 => if (w b0 0) ≤ v4 then (some (0, w)) else (ra_bind (FX0_isSentAt k b1 v2 v4 w) (fun r2 w3 => if r2 = 0 then (fX0_hear k b0 b1 n 2 v2 v3 v4 w3) else (if v4 = v3 then (ra_bind (FX4_enter k b1 v4 3 w3) (fun _ w9 => fX0_hear k b0 b1 n 2 v2 v3 v4 w9)) else (if ra_in v4 7 then fX0_hear k b0 b1 n 2 v2 v3 v4 (ra_st (ra_st w3 (b1 + 2) (ra_ix v4) 2) (b1 + 3) (ra_ix v4) (1 + (v4 - v4 / 3 * 3))) else none))))
    | _ => fX0_hear k b0 b1 n 1 v2 v3 (v4 + 1) w
theorem fX0_hear_0 (k : Nat) (b0 : Nat) (b1 : Nat) (n : Nat) (v2 : Int32) (v3 : Int32) (v4 : Int32) (w : ra_W) : fX0_hear k b0 b1 (n + 1) 0 v2 v3 v4 w = (ra_bind (FX0_heardAt k b0 b1 v2 w) (fun r1 w2 => fX0_hear k b0 b1 n 1 v2 r1 0 w2)) := rfl
theorem fX0_hear_1 (k : Nat) (b0 : Nat) (b1 : Nat) (n : Nat) (v2 : Int32) (v3 : Int32) (v4 : Int32) (w : ra_W) : fX0_hear k b0 b1 (n + 1) 1 v2 v3 v4 w = (if (w b0 0) ≤ v4 then (some (0, w)) else (ra_bind (FX0_isSentAt k b1 v2 v4 w) (fun r2 w3 => if r2 = 0 then (fX0_hear k b0 b1 n 2 v2 v3 v4 w3) else (if v4 = v3 then (ra_bind (FX4_enter k b1 v4 3 w3) (fun _ w9 => fX0_hear k b0 b1 n 2 v2 v3 v4 w9)) else (if ra_in v4 7 then fX0_hear k b0 b1 n 2 v2 v3 v4 (ra_st (ra_st w3 (b1 + 2) (ra_ix v4) 2) (b1 + 3) (ra_ix v4) (1 + (v4 - v4 / 3 * 3))) else none))))) := rfl
theorem fX0_hear_2 (k : Nat) (b0 : Nat) (b1 : Nat) (n : Nat) (v2 : Int32) (v3 : Int32) (v4 : Int32) (w : ra_W) : fX0_hear k b0 b1 (n + 1) 2 v2 v3 v4 w = (fX0_hear k b0 b1 n 1 v2 v3 (v4 + 1) w) := rfl
def FX0_hear (k : Nat) (b0 : Nat) (b1 : Nat) (v2 : Int32) (w : ra_W) : Option (Int32 × ra_W) := fX0_hear k b0 b1 k 0 v2 0 0 w
def pX0_hear_0 (Z : ra_Z) (r : Int32) (w1 : ra_W) (k : Nat) (b0 : Nat) (b1 : Nat) (n : Nat) : Prop := ∀ (v2 : Int32) (v3 : Int32) (v4 : Int32) (w : ra_W), fX0_hear k b0 b1 n 0 v2 v3 v4 w = some (r, w1) → ra_J Z 5 0 [(0, .ref ((zG Z).1 b0)), (1, .ref ((zG Z).1 b1)), (2, .int v2)] [] w
def pX0_hear_1 (Z : ra_Z) (r : Int32) (w1 : ra_W) (k : Nat) (b0 : Nat) (b1 : Nat) (n : Nat) : Prop := ∀ (v2 : Int32) (v3 : Int32) (v4 : Int32) (w : ra_W), fX0_hear k b0 b1 n 1 v2 v3 v4 w = some (r, w1) → ra_J Z 5 10 [(0, .ref ((zG Z).1 b0)), (1, .ref ((zG Z).1 b1)), (2, .int v2), (3, .int v3), (4, .int v4)] [] w
def pX0_hear_2 (Z : ra_Z) (r : Int32) (w1 : ra_W) (k : Nat) (b0 : Nat) (b1 : Nat) (n : Nat) : Prop := ∀ (v2 : Int32) (v3 : Int32) (v4 : Int32) (w : ra_W), fX0_hear k b0 b1 n 2 v2 v3 v4 w = some (r, w1) → ra_J Z 5 69 [(0, .ref ((zG Z).1 b0)), (1, .ref ((zG Z).1 b1)), (2, .int v2), (3, .int v3), (4, .int v4)] [] w
set_option maxHeartbeats 4000000 in
theorem tX0_hear_0 {Z : ra_Z} {r : Int32} {w1 : ra_W} (C : ra_C Z cX0_hear 5 RX0 2 47) (hQ : ra_QV Z r w1) (hr : (zmt Z).sig.returnType = none) (k : Nat) (b0 : Nat) (b1 : Nat) (h0 : ra_N b0) (h1 : ra_S b1) (n : Nat) (ih1 : pX0_hear_1 Z r w1 k b0 b1 n) : pX0_hear_0 Z r w1 k b0 b1 (n + 1) := by
  intro v2 v3 v4 w hf
  rw [fX0_hear_0] at hf
  refine rg_aload_n (pc := 0) C 0 rfl rfl dX0_hear_0 ?_
  refine rg_aload_n (pc := 1) C 1 rfl rfl dX0_hear_1 ?_
  refine rg_iload_n (pc := 2) C 2 rfl rfl dX0_hear_2 ?_
  obtain ⟨r1, w2, e3, hf⟩ := ra_bd hf
  refine rg_callSI (pc := 3) (As := [.ref ((zG Z).1 b0), .ref ((zG Z).1 b1), .int v2]) (st := []) C (cX0_heardAt (zl Z) (zG Z) C.hj k b0 b1 h0 h1 _ _ _ _ e3) ysX0_heardAt rfl wd_361 ⟨Nat.le_of_ble_eq_true rfl, Nat.le_of_ble_eq_true rfl⟩ rfl (Nat.le_of_ble_eq_true rfl) dX0_hear_3 ?_
  refine rg_istore_n (pc := 6) (lv' := [(0, .ref ((zG Z).1 b0)), (1, .ref ((zG Z).1 b1)), (2, .int v2), (3, .int r1)]) C [1, 2, 3, 0] rfl rfl (by decide) dX0_hear_6 ?_
  refine rg_iconst (pc := 7) (v := 0) C dX0_hear_7 (by decide) ?_
  refine rg_istore (pc := 8) (lv' := [(0, .ref ((zG Z).1 b0)), (1, .ref ((zG Z).1 b1)), (2, .int v2), (3, .int r1), (4, .int 0)]) C [1, 2, 3, 4, 0] rfl (by decide) dX0_hear_8 ?_
  exact ih1 _ _ _ _ hf
set_option maxHeartbeats 4000000 in
theorem tX0_hear_1 {Z : ra_Z} {r : Int32} {w1 : ra_W} (C : ra_C Z cX0_hear 5 RX0 2 47) (hQ : ra_QV Z r w1) (hr : (zmt Z).sig.returnType = none) (k : Nat) (b0 : Nat) (b1 : Nat) (h0 : ra_N b0) (h1 : ra_S b1) (n : Nat) (ih2 : pX0_hear_2 Z r w1 k b0 b1 n) : pX0_hear_1 Z r w1 k b0 b1 (n + 1) := by
  intro v2 v3 v4 w hf
  rw [fX0_hear_1] at hf
  refine rg_iload (pc := 10) C 4 rfl dX0_hear_10 ?_
  refine rg_aload_n (pc := 12) C 0 rfl rfl dX0_hear_12 ?_
  refine rg_get (pc := 13) C b0 2 0 h0.1 (by decide) rfl inlX2 (by decide) wd_66 rfl dX0_hear_13 ?_
  refine rg_icmp_ge (pc := 16) (tgt := 75) C dX0_hear_16 (by decide) (fun c1 => ?_) (fun c1 => ?_)
  · replace hf := ra_t hf c1
    exact rg_vret (pc := 75) C hQ hr hf dX0_hear_75
  · replace hf := ra_f hf c1
    refine rg_aload_n (pc := 19) C 1 rfl rfl dX0_hear_19 ?_
    refine rg_iload_n (pc := 20) C 2 rfl rfl dX0_hear_20 ?_
    refine rg_iload (pc := 21) C 4 rfl dX0_hear_21 ?_
    obtain ⟨r2, w3, e4, hf⟩ := ra_bd hf
    refine rg_callSI (pc := 23) (As := [.ref ((zG Z).1 b1), .int v2, .int v4]) (st := []) C (cX0_isSentAt (zl Z) (zG Z) C.hj k b1 h1 _ _ _ _ _ e4) ysX0_isSentAt rfl wd_364 ⟨Nat.le_of_ble_eq_true rfl, Nat.le_of_ble_eq_true rfl⟩ rfl (Nat.le_of_ble_eq_true rfl) dX0_hear_23 ?_
    refine rg_if_ne (pc := 26) (tgt := 32) C dX0_hear_26 (by decide) (fun c5 => ?_) (fun c5 => ?_)
    · replace hf := ra_f hf c5
      refine rg_iload (pc := 32) C 4 rfl dX0_hear_32 ?_
      refine rg_iload_n (pc := 34) C 3 rfl rfl dX0_hear_34 ?_
      refine rg_icmp_ne (pc := 35) (tgt := 48) C dX0_hear_35 (by decide) (fun c6 => ?_) (fun c6 => ?_)
      · replace hf := ra_f hf c6
        refine rg_aload_n (pc := 48) C 1 rfl rfl dX0_hear_48 ?_
        refine rg_get (pc := 49) C b1 4 1 h1.1 (by decide) rfl inlX4 (by decide) wd_134 rfl dX0_hear_49 ?_
        refine rg_iload (pc := 52) C 4 rfl dX0_hear_52 ?_
        refine rg_iconst (pc := 54) (v := 2) C dX0_hear_54 (by decide) ?_
        obtain ⟨g7, hf⟩ := ra_gd hf
        refine rg_iast (pc := 55) (j := (ra_ix v4)) C (b1 + 2) h1.2.2.1 rfl g7 dX0_hear_55 ?_
        refine rg_aload_n (pc := 56) C 1 rfl rfl dX0_hear_56 ?_
        refine rg_get (pc := 57) C b1 4 2 h1.1 (by decide) rfl inlX4 (by decide) wd_137 rfl dX0_hear_57 ?_
        refine rg_iload (pc := 60) C 4 rfl dX0_hear_60 ?_
        refine rg_iconst (pc := 62) (v := 1) C dX0_hear_62 (by decide) ?_
        refine rg_iload (pc := 63) C 4 rfl dX0_hear_63 ?_
        refine rg_iconst (pc := 65) (v := 3) C dX0_hear_65 (by decide) ?_
        refine rg_irem (pc := 66) C (by decide) dX0_hear_66 ?_
        refine rg_iadd (pc := 67) C dX0_hear_67 ?_
        refine rg_iast (pc := 68) (j := (ra_ix v4)) C (b1 + 3) h1.2.2.2.1 rfl g7 dX0_hear_68 ?_
        exact ih2 _ _ _ _ hf
      · replace hf := ra_t hf c6
        refine rg_aload_n (pc := 38) C 1 rfl rfl dX0_hear_38 ?_
        refine rg_iload (pc := 39) C 4 rfl dX0_hear_39 ?_
        refine rg_iconst (pc := 41) (v := 3) C dX0_hear_41 (by decide) ?_
        obtain ⟨r8, w9, e10, hf⟩ := ra_bd hf
        refine rg_callVV (pc := 42) (As := [.int v4, .int 3]) (st := []) C (cX4_enter (zl Z) (zG Z) C.hj k b1 h1 _ _ _ _ _ e10) h1.1 (by decide) rfl ysX4_enter rfl wd_367 ⟨Nat.le_of_ble_eq_true rfl, Nat.le_of_ble_eq_true rfl⟩ rfl (Nat.le_of_ble_eq_true rfl) dX0_hear_42 ?_
        refine rg_goto (pc := 45) (tgt := 69) C dX0_hear_45 (by decide) ?_
        exact ih2 _ _ _ _ hf
    · replace hf := ra_t hf c5
      refine rg_goto (pc := 29) (tgt := 69) C dX0_hear_29 (by decide) ?_
      exact ih2 _ _ _ _ hf
set_option maxHeartbeats 4000000 in
theorem tX0_hear_2 {Z : ra_Z} {r : Int32} {w1 : ra_W} (C : ra_C Z cX0_hear 5 RX0 2 47) (hQ : ra_QV Z r w1) (hr : (zmt Z).sig.returnType = none) (k : Nat) (b0 : Nat) (b1 : Nat) (h0 : ra_N b0) (h1 : ra_S b1) (n : Nat) (ih1 : pX0_hear_1 Z r w1 k b0 b1 n) : pX0_hear_2 Z r w1 k b0 b1 (n + 1) := by
  intro v2 v3 v4 w hf
  rw [fX0_hear_2] at hf
  refine rg_iinc (pc := 69) (v := (v4 + 1)) (lv' := [(0, .ref ((zG Z).1 b0)), (1, .ref ((zG Z).1 b1)), (2, .int v2), (3, .int v3), (4, .int (v4 + 1))]) C 4 rfl [1, 2, 3, 4, 0] rfl rfl (by decide) dX0_hear_69 ?_
  refine rg_goto (pc := 72) (tgt := 10) C dX0_hear_72 (by decide) ?_
  exact ih1 _ _ _ _ hf
theorem tX0_hear {Z : ra_Z} {r : Int32} {w1 : ra_W} (C : ra_C Z cX0_hear 5 RX0 2 47) (hQ : ra_QV Z r w1) (hr : (zmt Z).sig.returnType = none) (k : Nat) (b0 : Nat) (b1 : Nat) (h0 : ra_N b0) (h1 : ra_S b1) : ∀ n : Nat, pX0_hear_0 Z r w1 k b0 b1 n ∧ pX0_hear_1 Z r w1 k b0 b1 n ∧ pX0_hear_2 Z r w1 k b0 b1 n := by
  intro n
  induction n with
  | zero => exact ⟨fun _ _ _ _ h => by cases h, fun _ _ _ _ h => by cases h, fun _ _ _ _ h => by cases h⟩
  | succ n ih =>
    obtain ⟨ih0, ih1, ih2⟩ := ih
    exact ⟨tX0_hear_0 C hQ hr k b0 b1 h0 h1 n ih1, tX0_hear_1 C hQ hr k b0 b1 h0 h1 n ih2, tX0_hear_2 C hQ hr k b0 b1 h0 h1 n ih1⟩
theorem cX0_hear (l : Launch) (G : ra_G) (hj : ra_inj G) (k : Nat) (b0 : Nat) (b1 : Nat) (h0 : ra_N b0) (h1 : ra_S b1) (v2 : Int32) (w : ra_W) (r : Int32) (w1 : ra_W) (h : FX0_hear k b0 b1 v2 w = some (r, w1)) : ra_MV l G yX0_hear cX0_hear 5 none 2 47 [.ref (G.1 b0), .ref (G.1 b1), .int v2] w r w1 :=
  ra_entryV (own := RX0) (by decide) rfl (Nat.le_of_ble_eq_true rfl) hj (fun Z hl hG C hQ hr => by subst hl; subst hG; exact (tX0_hear C hQ hr k b0 b1 h0 h1 k).1 _ _ _ _ h)
theorem ysX0_hear : ra_YS yX0_hear cX0_hear 5 none 3 := ⟨⟨wd_4, wd_360, by decide, by decide, by decide⟩, wd_359⟩
/-- TrunkRadio$State.rest -/
def fX4_rest (k : Nat) (b0 : Nat) : Nat → Nat → Int32 → ra_W → Option (Int32 × ra_W)
  | 0, _, _, _ => none
  | n + 1, L, v1, w => match L with
    | _ => ra_bind (FX4_enter k b0 v1 0 w) (fun _ w2 => if ra_in v1 7 then some (0, (ra_st (ra_st w2 (b0 + 4) (ra_ix v1) 0) (b0 + 5) (ra_ix v1) 0)) else none)
theorem fX4_rest_0 (k : Nat) (b0 : Nat) (n : Nat) (v1 : Int32) (w : ra_W) : fX4_rest k b0 (n + 1) 0 v1 w = (ra_bind (FX4_enter k b0 v1 0 w) (fun _ w2 => if ra_in v1 7 then some (0, (ra_st (ra_st w2 (b0 + 4) (ra_ix v1) 0) (b0 + 5) (ra_ix v1) 0)) else none)) := rfl
def FX4_rest (k : Nat) (b0 : Nat) (v1 : Int32) (w : ra_W) : Option (Int32 × ra_W) := fX4_rest k b0 k 0 v1 w
def pX4_rest_0 (Z : ra_Z) (r : Int32) (w1 : ra_W) (k : Nat) (b0 : Nat) (n : Nat) : Prop := ∀ (v1 : Int32) (w : ra_W), fX4_rest k b0 n 0 v1 w = some (r, w1) → ra_J Z 2 0 [(0, .ref ((zG Z).1 b0)), (1, .int v1)] [] w
set_option maxHeartbeats 4000000 in
theorem tX4_rest_0 {Z : ra_Z} {r : Int32} {w1 : ra_W} (C : ra_C Z cX4_rest 2 RX4 1 22) (hQ : ra_QV Z r w1) (hr : (zmt Z).sig.returnType = none) (k : Nat) (b0 : Nat) (h0 : ra_S b0) (n : Nat) : pX4_rest_0 Z r w1 k b0 (n + 1) := by
  intro v1 w hf
  rw [fX4_rest_0] at hf
  refine rg_aload_n (pc := 0) C 0 rfl rfl dX4_rest_0 ?_
  refine rg_iload_n (pc := 1) C 1 rfl rfl dX4_rest_1 ?_
  refine rg_iconst (pc := 2) (v := 0) C dX4_rest_2 (by decide) ?_
  obtain ⟨r1, w2, e3, hf⟩ := ra_bd hf
  refine rg_callVV (pc := 3) (As := [.int v1, .int 0]) (st := []) C (cX4_enter (zl Z) (zG Z) C.hj k b0 h0 _ _ _ _ _ e3) h0.1 (by decide) rfl ysX4_enter rfl wd_327 ⟨Nat.le_of_ble_eq_true rfl, Nat.le_of_ble_eq_true rfl⟩ rfl (Nat.le_of_ble_eq_true rfl) dX4_rest_3 ?_
  refine rg_aload_n (pc := 6) C 0 rfl rfl dX4_rest_6 ?_
  refine rg_get (pc := 7) C b0 4 3 h0.1 (by decide) rfl inlX4 (by decide) wd_139 rfl dX4_rest_7 ?_
  refine rg_iload_n (pc := 10) C 1 rfl rfl dX4_rest_10 ?_
  refine rg_iconst (pc := 11) (v := 0) C dX4_rest_11 (by decide) ?_
  obtain ⟨g4, hf⟩ := ra_gd hf
  refine rg_iast (pc := 12) (j := (ra_ix v1)) C (b0 + 4) h0.2.2.2.2.1 rfl g4 dX4_rest_12 ?_
  refine rg_aload_n (pc := 13) C 0 rfl rfl dX4_rest_13 ?_
  refine rg_get (pc := 14) C b0 4 4 h0.1 (by decide) rfl inlX4 (by decide) wd_142 rfl dX4_rest_14 ?_
  refine rg_iload_n (pc := 17) C 1 rfl rfl dX4_rest_17 ?_
  refine rg_iconst (pc := 18) (v := 0) C dX4_rest_18 (by decide) ?_
  refine rg_iast (pc := 19) (j := (ra_ix v1)) C (b0 + 5) h0.2.2.2.2.2.1 rfl g4 dX4_rest_19 ?_
  exact rg_vret (pc := 20) C hQ hr hf dX4_rest_20
theorem tX4_rest {Z : ra_Z} {r : Int32} {w1 : ra_W} (C : ra_C Z cX4_rest 2 RX4 1 22) (hQ : ra_QV Z r w1) (hr : (zmt Z).sig.returnType = none) (k : Nat) (b0 : Nat) (h0 : ra_S b0) : ∀ n : Nat, pX4_rest_0 Z r w1 k b0 n := by
  intro n
  induction n with
  | zero => exact fun _ _ h => by cases h
  | succ n ih => exact tX4_rest_0 C hQ hr k b0 h0 n
theorem cX4_rest (l : Launch) (G : ra_G) (hj : ra_inj G) (k : Nat) (b0 : Nat) (h0 : ra_S b0) (v1 : Int32) (w : ra_W) (r : Int32) (w1 : ra_W) (h : FX4_rest k b0 v1 w = some (r, w1)) : ra_MV l G yX4_rest cX4_rest 2 none 1 22 [.ref (G.1 b0), .int v1] w r w1 :=
  ra_entryV (own := RX4) (by decide) rfl (Nat.le_of_ble_eq_true rfl) hj (fun Z hl hG C hQ hr => by subst hl; subst hG; exact (tX4_rest C hQ hr k b0 h0 k) _ _ h)
theorem ysX4_rest : ra_YV yX4_rest cX4_rest 2 none 1 RX4 := ⟨⟨wd_5, wd_326, by decide, by decide, by decide⟩, wd_324, wd_325⟩
/-- TrunkRadio$State.talkerOf -/
def fX4_talkerOf (k : Nat) (b0 : Nat) (b1 : Nat) : Nat → Nat → Int32 → Int32 → ra_W → Option (Int32 × ra_W)
  | 0, _, _, _, _ => none
  | n + 1, L, v2, v3, w => match L with
    | 0 => fX4_talkerOf k b0 b1 n 1 v2 0 w
    | 1 => if (w b1 0) ≤ v3 then (some ((-9), w)) else (if ra_in v3 7 then if (w (b0 + 2) (ra_ix v3)) = 4 then (if (w (b1 + 3) (ra_ix v3)) = v2 then (some (v3, w)) else (fX4_talkerOf k b0 b1 n 2 v2 v3 w)) else (fX4_talkerOf k b0 b1 n 2 v2 v3 w) else none)
    | _ => fX4_talkerOf k b0 b1 n 1 v2 (v3 + 1) w
theorem fX4_talkerOf_0 (k : Nat) (b0 : Nat) (b1 : Nat) (n : Nat) (v2 : Int32) (v3 : Int32) (w : ra_W) : fX4_talkerOf k b0 b1 (n + 1) 0 v2 v3 w = (fX4_talkerOf k b0 b1 n 1 v2 0 w) := rfl
theorem fX4_talkerOf_1 (k : Nat) (b0 : Nat) (b1 : Nat) (n : Nat) (v2 : Int32) (v3 : Int32) (w : ra_W) : fX4_talkerOf k b0 b1 (n + 1) 1 v2 v3 w = (if (w b1 0) ≤ v3 then (some ((-9), w)) else (if ra_in v3 7 then if (w (b0 + 2) (ra_ix v3)) = 4 then (if (w (b1 + 3) (ra_ix v3)) = v2 then (some (v3, w)) else (fX4_talkerOf k b0 b1 n 2 v2 v3 w)) else (fX4_talkerOf k b0 b1 n 2 v2 v3 w) else none)) := rfl
theorem fX4_talkerOf_2 (k : Nat) (b0 : Nat) (b1 : Nat) (n : Nat) (v2 : Int32) (v3 : Int32) (w : ra_W) : fX4_talkerOf k b0 b1 (n + 1) 2 v2 v3 w = (fX4_talkerOf k b0 b1 n 1 v2 (v3 + 1) w) := rfl
def FX4_talkerOf (k : Nat) (b0 : Nat) (b1 : Nat) (v2 : Int32) (w : ra_W) : Option (Int32 × ra_W) := fX4_talkerOf k b0 b1 k 0 v2 0 w
def pX4_talkerOf_0 (Z : ra_Z) (r : Int32) (w1 : ra_W) (k : Nat) (b0 : Nat) (b1 : Nat) (n : Nat) : Prop := ∀ (v2 : Int32) (v3 : Int32) (w : ra_W), fX4_talkerOf k b0 b1 n 0 v2 v3 w = some (r, w1) → ra_J Z 4 0 [(0, .ref ((zG Z).1 b0)), (1, .ref ((zG Z).1 b1)), (2, .int v2)] [] w
def pX4_talkerOf_1 (Z : ra_Z) (r : Int32) (w1 : ra_W) (k : Nat) (b0 : Nat) (b1 : Nat) (n : Nat) : Prop := ∀ (v2 : Int32) (v3 : Int32) (w : ra_W), fX4_talkerOf k b0 b1 n 1 v2 v3 w = some (r, w1) → ra_J Z 4 2 [(0, .ref ((zG Z).1 b0)), (1, .ref ((zG Z).1 b1)), (2, .int v2), (3, .int v3)] [] w
def pX4_talkerOf_2 (Z : ra_Z) (r : Int32) (w1 : ra_W) (k : Nat) (b0 : Nat) (b1 : Nat) (n : Nat) : Prop := ∀ (v2 : Int32) (v3 : Int32) (w : ra_W), fX4_talkerOf k b0 b1 n 2 v2 v3 w = some (r, w1) → ra_J Z 4 32 [(0, .ref ((zG Z).1 b0)), (1, .ref ((zG Z).1 b1)), (2, .int v2), (3, .int v3)] [] w
set_option maxHeartbeats 4000000 in
theorem tX4_talkerOf_0 {Z : ra_Z} {r : Int32} {w1 : ra_W} (C : ra_C Z cX4_talkerOf 4 RX4 0 0) (hQ : ra_QI Z r w1) (hr : (zmt Z).sig.returnType = (some .int)) (k : Nat) (b0 : Nat) (b1 : Nat) (h0 : ra_S b0) (h1 : ra_N b1) (n : Nat) (ih1 : pX4_talkerOf_1 Z r w1 k b0 b1 n) : pX4_talkerOf_0 Z r w1 k b0 b1 (n + 1) := by
  intro v2 v3 w hf
  rw [fX4_talkerOf_0] at hf
  refine rg_iconst (pc := 0) (v := 0) C dX4_talkerOf_0 (by decide) ?_
  refine rg_istore_n (pc := 1) (lv' := [(0, .ref ((zG Z).1 b0)), (1, .ref ((zG Z).1 b1)), (2, .int v2), (3, .int 0)]) C [1, 2, 3, 0] rfl rfl (by decide) dX4_talkerOf_1 ?_
  exact ih1 _ _ _ hf
set_option maxHeartbeats 4000000 in
theorem tX4_talkerOf_1 {Z : ra_Z} {r : Int32} {w1 : ra_W} (C : ra_C Z cX4_talkerOf 4 RX4 0 0) (hQ : ra_QI Z r w1) (hr : (zmt Z).sig.returnType = (some .int)) (k : Nat) (b0 : Nat) (b1 : Nat) (h0 : ra_S b0) (h1 : ra_N b1) (n : Nat) (ih2 : pX4_talkerOf_2 Z r w1 k b0 b1 n) : pX4_talkerOf_1 Z r w1 k b0 b1 (n + 1) := by
  intro v2 v3 w hf
  rw [fX4_talkerOf_1] at hf
  refine rg_iload_n (pc := 2) C 3 rfl rfl dX4_talkerOf_2 ?_
  refine rg_aload_n (pc := 3) C 1 rfl rfl dX4_talkerOf_3 ?_
  refine rg_get (pc := 4) C b1 2 0 h1.1 (by decide) rfl inlX2 (by decide) wd_68 rfl dX4_talkerOf_4 ?_
  refine rg_icmp_ge (pc := 7) (tgt := 38) C dX4_talkerOf_7 (by decide) (fun c1 => ?_) (fun c1 => ?_)
  · replace hf := ra_t hf c1
    refine rg_bipush (pc := 38) (v := (-9)) C dX4_talkerOf_38 (by decide) ?_
    exact rg_iret (pc := 40) C hQ hr hf dX4_talkerOf_40
  · replace hf := ra_f hf c1
    refine rg_aload_n (pc := 10) C 0 rfl rfl dX4_talkerOf_10 ?_
    refine rg_get (pc := 11) C b0 4 1 h0.1 (by decide) rfl inlX4 (by decide) wd_133 rfl dX4_talkerOf_11 ?_
    refine rg_iload_n (pc := 14) C 3 rfl rfl dX4_talkerOf_14 ?_
    obtain ⟨g2, hf⟩ := ra_gd hf
    refine rg_iald (pc := 15) (j := (ra_ix v3)) C (b0 + 2) h0.2.2.1 rfl g2 dX4_talkerOf_15 ?_
    refine rg_iconst (pc := 16) (v := 4) C dX4_talkerOf_16 (by decide) ?_
    refine rg_icmp_ne (pc := 17) (tgt := 32) C dX4_talkerOf_17 (by decide) (fun c3 => ?_) (fun c3 => ?_)
    · replace hf := ra_f hf c3
      exact ih2 _ _ _ hf
    · replace hf := ra_t hf c3
      refine rg_aload_n (pc := 20) C 1 rfl rfl dX4_talkerOf_20 ?_
      refine rg_get (pc := 21) C b1 2 5 h1.1 (by decide) rfl inlX2 (by decide) wd_89 rfl dX4_talkerOf_21 ?_
      refine rg_iload_n (pc := 24) C 3 rfl rfl dX4_talkerOf_24 ?_
      refine rg_iald (pc := 25) (j := (ra_ix v3)) C (b1 + 3) h1.2.2.2.1 rfl g2 dX4_talkerOf_25 ?_
      refine rg_iload_n (pc := 26) C 2 rfl rfl dX4_talkerOf_26 ?_
      refine rg_icmp_ne (pc := 27) (tgt := 32) C dX4_talkerOf_27 (by decide) (fun c4 => ?_) (fun c4 => ?_)
      · replace hf := ra_f hf c4
        exact ih2 _ _ _ hf
      · replace hf := ra_t hf c4
        refine rg_iload_n (pc := 30) C 3 rfl rfl dX4_talkerOf_30 ?_
        exact rg_iret (pc := 31) C hQ hr hf dX4_talkerOf_31
set_option maxHeartbeats 4000000 in
theorem tX4_talkerOf_2 {Z : ra_Z} {r : Int32} {w1 : ra_W} (C : ra_C Z cX4_talkerOf 4 RX4 0 0) (hQ : ra_QI Z r w1) (hr : (zmt Z).sig.returnType = (some .int)) (k : Nat) (b0 : Nat) (b1 : Nat) (h0 : ra_S b0) (h1 : ra_N b1) (n : Nat) (ih1 : pX4_talkerOf_1 Z r w1 k b0 b1 n) : pX4_talkerOf_2 Z r w1 k b0 b1 (n + 1) := by
  intro v2 v3 w hf
  rw [fX4_talkerOf_2] at hf
  refine rg_iinc (pc := 32) (v := (v3 + 1)) (lv' := [(0, .ref ((zG Z).1 b0)), (1, .ref ((zG Z).1 b1)), (2, .int v2), (3, .int (v3 + 1))]) C 3 rfl [1, 2, 3, 0] rfl rfl (by decide) dX4_talkerOf_32 ?_
  refine rg_goto (pc := 35) (tgt := 2) C dX4_talkerOf_35 (by decide) ?_
  exact ih1 _ _ _ hf
theorem tX4_talkerOf {Z : ra_Z} {r : Int32} {w1 : ra_W} (C : ra_C Z cX4_talkerOf 4 RX4 0 0) (hQ : ra_QI Z r w1) (hr : (zmt Z).sig.returnType = (some .int)) (k : Nat) (b0 : Nat) (b1 : Nat) (h0 : ra_S b0) (h1 : ra_N b1) : ∀ n : Nat, pX4_talkerOf_0 Z r w1 k b0 b1 n ∧ pX4_talkerOf_1 Z r w1 k b0 b1 n ∧ pX4_talkerOf_2 Z r w1 k b0 b1 n := by
  intro n
  induction n with
  | zero => exact ⟨fun _ _ _ h => by cases h, fun _ _ _ h => by cases h, fun _ _ _ h => by cases h⟩
  | succ n ih =>
    obtain ⟨ih0, ih1, ih2⟩ := ih
    exact ⟨tX4_talkerOf_0 C hQ hr k b0 b1 h0 h1 n ih1, tX4_talkerOf_1 C hQ hr k b0 b1 h0 h1 n ih2, tX4_talkerOf_2 C hQ hr k b0 b1 h0 h1 n ih1⟩
theorem cX4_talkerOf (l : Launch) (G : ra_G) (hj : ra_inj G) (k : Nat) (b0 : Nat) (b1 : Nat) (h0 : ra_S b0) (h1 : ra_N b1) (v2 : Int32) (w : ra_W) (r : Int32) (w1 : ra_W) (h : FX4_talkerOf k b0 b1 v2 w = some (r, w1)) : ra_MI l G yX4_talkerOf cX4_talkerOf 4 (some .int) 0 0 [.ref (G.1 b0), .ref (G.1 b1), .int v2] w r w1 :=
  ra_entryI (own := RX4) (by decide) rfl (Nat.le_of_ble_eq_true rfl) hj (fun Z hl hG C hQ hr => by subst hl; subst hG; exact (tX4_talkerOf C hQ hr k b0 b1 h0 h1 k).1 _ _ _ h)
theorem ysX4_talkerOf : ra_YV yX4_talkerOf cX4_talkerOf 4 (some .int) 2 RX4 := ⟨⟨wd_5, wd_400, by decide, by decide, by decide⟩, wd_398, wd_399⟩
/-- TrunkRadio$State.copy -/
def fX4_copy (k : Nat) (b0 : Nat) (b1 : Nat) : Nat → Nat → ra_W → Option (Int32 × ra_W)
  | 0, _, _ => none
  | n + 1, L, w => match L with
    | _ => some (0, (ra_st (ra_st (ra_st (ra_st (ra_cp (ra_cp (ra_cp (ra_cp (ra_cp (ra_cp w (b1 + 1) 0 (b0 + 1) 0 7) (b1 + 2) 0 (b0 + 2) 0 7) (b1 + 3) 0 (b0 + 3) 0 7) (b1 + 4) 0 (b0 + 4) 0 7) (b1 + 5) 0 (b0 + 5) 0 7) (b1 + 6) 0 (b0 + 6) 0 2) b0 6 ((ra_cp (ra_cp (ra_cp (ra_cp (ra_cp (ra_cp w (b1 + 1) 0 (b0 + 1) 0 7) (b1 + 2) 0 (b0 + 2) 0 7) (b1 + 3) 0 (b0 + 3) 0 7) (b1 + 4) 0 (b0 + 4) 0 7) (b1 + 5) 0 (b0 + 5) 0 7) (b1 + 6) 0 (b0 + 6) 0 2) b1 6)) b0 7 ((ra_st (ra_cp (ra_cp (ra_cp (ra_cp (ra_cp (ra_cp w (b1 + 1) 0 (b0 + 1) 0 7) (b1 + 2) 0 (b0 + 2) 0 7) (b1 + 3) 0 (b0 + 3) 0 7) (b1 + 4) 0 (b0 + 4) 0 7) (b1 + 5) 0 (b0 + 5) 0 7) (b1 + 6) 0 (b0 + 6) 0 2) b0 6 ((ra_cp (ra_cp (ra_cp (ra_cp (ra_cp (ra_cp w (b1 + 1) 0 (b0 + 1) 0 7) (b1 + 2) 0 (b0 + 2) 0 7) (b1 + 3) 0 (b0 + 3) 0 7) (b1 + 4) 0 (b0 + 4) 0 7) (b1 + 5) 0 (b0 + 5) 0 7) (b1 + 6) 0 (b0 + 6) 0 2) b1 6)) b1 7)) b0 8 ((ra_st (ra_st (ra_cp (ra_cp (ra_cp (ra_cp (ra_cp (ra_cp w (b1 + 1) 0 (b0 + 1) 0 7) (b1 + 2) 0 (b0 + 2) 0 7) (b1 + 3) 0 (b0 + 3) 0 7) (b1 + 4) 0 (b0 + 4) 0 7) (b1 + 5) 0 (b0 + 5) 0 7) (b1 + 6) 0 (b0 + 6) 0 2) b0 6 ((ra_cp (ra_cp (ra_cp (ra_cp (ra_cp (ra_cp w (b1 + 1) 0 (b0 + 1) 0 7) (b1 + 2) 0 (b0 + 2) 0 7) (b1 + 3) 0 (b0 + 3) 0 7) (b1 + 4) 0 (b0 + 4) 0 7) (b1 + 5) 0 (b0 + 5) 0 7) (b1 + 6) 0 (b0 + 6) 0 2) b1 6)) b0 7 ((ra_st (ra_cp (ra_cp (ra_cp (ra_cp (ra_cp (ra_cp w (b1 + 1) 0 (b0 + 1) 0 7) (b1 + 2) 0 (b0 + 2) 0 7) (b1 + 3) 0 (b0 + 3) 0 7) (b1 + 4) 0 (b0 + 4) 0 7) (b1 + 5) 0 (b0 + 5) 0 7) (b1 + 6) 0 (b0 + 6) 0 2) b0 6 ((ra_cp (ra_cp (ra_cp (ra_cp (ra_cp (ra_cp w (b1 + 1) 0 (b0 + 1) 0 7) (b1 + 2) 0 (b0 + 2) 0 7) (b1 + 3) 0 (b0 + 3) 0 7) (b1 + 4) 0 (b0 + 4) 0 7) (b1 + 5) 0 (b0 + 5) 0 7) (b1 + 6) 0 (b0 + 6) 0 2) b1 6)) b1 7)) b1 8)) b0 9 ((ra_st (ra_st (ra_st (ra_cp (ra_cp (ra_cp (ra_cp (ra_cp (ra_cp w (b1 + 1) 0 (b0 + 1) 0 7) (b1 + 2) 0 (b0 + 2) 0 7) (b1 + 3) 0 (b0 + 3) 0 7) (b1 + 4) 0 (b0 + 4) 0 7) (b1 + 5) 0 (b0 + 5) 0 7) (b1 + 6) 0 (b0 + 6) 0 2) b0 6 ((ra_cp (ra_cp (ra_cp (ra_cp (ra_cp (ra_cp w (b1 + 1) 0 (b0 + 1) 0 7) (b1 + 2) 0 (b0 + 2) 0 7) (b1 + 3) 0 (b0 + 3) 0 7) (b1 + 4) 0 (b0 + 4) 0 7) (b1 + 5) 0 (b0 + 5) 0 7) (b1 + 6) 0 (b0 + 6) 0 2) b1 6)) b0 7 ((ra_st (ra_cp (ra_cp (ra_cp (ra_cp (ra_cp (ra_cp w (b1 + 1) 0 (b0 + 1) 0 7) (b1 + 2) 0 (b0 + 2) 0 7) (b1 + 3) 0 (b0 + 3) 0 7) (b1 + 4) 0 (b0 + 4) 0 7) (b1 + 5) 0 (b0 + 5) 0 7) (b1 + 6) 0 (b0 + 6) 0 2) b0 6 ((ra_cp (ra_cp (ra_cp (ra_cp (ra_cp (ra_cp w (b1 + 1) 0 (b0 + 1) 0 7) (b1 + 2) 0 (b0 + 2) 0 7) (b1 + 3) 0 (b0 + 3) 0 7) (b1 + 4) 0 (b0 + 4) 0 7) (b1 + 5) 0 (b0 + 5) 0 7) (b1 + 6) 0 (b0 + 6) 0 2) b1 6)) b1 7)) b0 8 ((ra_st (ra_st (ra_cp (ra_cp (ra_cp (ra_cp (ra_cp (ra_cp w (b1 + 1) 0 (b0 + 1) 0 7) (b1 + 2) 0 (b0 + 2) 0 7) (b1 + 3) 0 (b0 + 3) 0 7) (b1 + 4) 0 (b0 + 4) 0 7) (b1 + 5) 0 (b0 + 5) 0 7) (b1 + 6) 0 (b0 + 6) 0 2) b0 6 ((ra_cp (ra_cp (ra_cp (ra_cp (ra_cp (ra_cp w (b1 + 1) 0 (b0 + 1) 0 7) (b1 + 2) 0 (b0 + 2) 0 7) (b1 + 3) 0 (b0 + 3) 0 7) (b1 + 4) 0 (b0 + 4) 0 7) (b1 + 5) 0 (b0 + 5) 0 7) (b1 + 6) 0 (b0 + 6) 0 2) b1 6)) b0 7 ((ra_st (ra_cp (ra_cp (ra_cp (ra_cp (ra_cp (ra_cp w (b1 + 1) 0 (b0 + 1) 0 7) (b1 + 2) 0 (b0 + 2) 0 7) (b1 + 3) 0 (b0 + 3) 0 7) (b1 + 4) 0 (b0 + 4) 0 7) (b1 + 5) 0 (b0 + 5) 0 7) (b1 + 6) 0 (b0 + 6) 0 2) b0 6 ((ra_cp (ra_cp (ra_cp (ra_cp (ra_cp (ra_cp w (b1 + 1) 0 (b0 + 1) 0 7) (b1 + 2) 0 (b0 + 2) 0 7) (b1 + 3) 0 (b0 + 3) 0 7) (b1 + 4) 0 (b0 + 4) 0 7) (b1 + 5) 0 (b0 + 5) 0 7) (b1 + 6) 0 (b0 + 6) 0 2) b1 6)) b1 7)) b1 8)) b1 9)))
theorem fX4_copy_0 (k : Nat) (b0 : Nat) (b1 : Nat) (n : Nat)  (w : ra_W) : fX4_copy k b0 b1 (n + 1) 0  w = (some (0, (ra_st (ra_st (ra_st (ra_st (ra_cp (ra_cp (ra_cp (ra_cp (ra_cp (ra_cp w (b1 + 1) 0 (b0 + 1) 0 7) (b1 + 2) 0 (b0 + 2) 0 7) (b1 + 3) 0 (b0 + 3) 0 7) (b1 + 4) 0 (b0 + 4) 0 7) (b1 + 5) 0 (b0 + 5) 0 7) (b1 + 6) 0 (b0 + 6) 0 2) b0 6 ((ra_cp (ra_cp (ra_cp (ra_cp (ra_cp (ra_cp w (b1 + 1) 0 (b0 + 1) 0 7) (b1 + 2) 0 (b0 + 2) 0 7) (b1 + 3) 0 (b0 + 3) 0 7) (b1 + 4) 0 (b0 + 4) 0 7) (b1 + 5) 0 (b0 + 5) 0 7) (b1 + 6) 0 (b0 + 6) 0 2) b1 6)) b0 7 ((ra_st (ra_cp (ra_cp (ra_cp (ra_cp (ra_cp (ra_cp w (b1 + 1) 0 (b0 + 1) 0 7) (b1 + 2) 0 (b0 + 2) 0 7) (b1 + 3) 0 (b0 + 3) 0 7) (b1 + 4) 0 (b0 + 4) 0 7) (b1 + 5) 0 (b0 + 5) 0 7) (b1 + 6) 0 (b0 + 6) 0 2) b0 6 ((ra_cp (ra_cp (ra_cp (ra_cp (ra_cp (ra_cp w (b1 + 1) 0 (b0 + 1) 0 7) (b1 + 2) 0 (b0 + 2) 0 7) (b1 + 3) 0 (b0 + 3) 0 7) (b1 + 4) 0 (b0 + 4) 0 7) (b1 + 5) 0 (b0 + 5) 0 7) (b1 + 6) 0 (b0 + 6) 0 2) b1 6)) b1 7)) b0 8 ((ra_st (ra_st (ra_cp (ra_cp (ra_cp (ra_cp (ra_cp (ra_cp w (b1 + 1) 0 (b0 + 1) 0 7) (b1 + 2) 0 (b0 + 2) 0 7) (b1 + 3) 0 (b0 + 3) 0 7) (b1 + 4) 0 (b0 + 4) 0 7) (b1 + 5) 0 (b0 + 5) 0 7) (b1 + 6) 0 (b0 + 6) 0 2) b0 6 ((ra_cp (ra_cp (ra_cp (ra_cp (ra_cp (ra_cp w (b1 + 1) 0 (b0 + 1) 0 7) (b1 + 2) 0 (b0 + 2) 0 7) (b1 + 3) 0 (b0 + 3) 0 7) (b1 + 4) 0 (b0 + 4) 0 7) (b1 + 5) 0 (b0 + 5) 0 7) (b1 + 6) 0 (b0 + 6) 0 2) b1 6)) b0 7 ((ra_st (ra_cp (ra_cp (ra_cp (ra_cp (ra_cp (ra_cp w (b1 + 1) 0 (b0 + 1) 0 7) (b1 + 2) 0 (b0 + 2) 0 7) (b1 + 3) 0 (b0 + 3) 0 7) (b1 + 4) 0 (b0 + 4) 0 7) (b1 + 5) 0 (b0 + 5) 0 7) (b1 + 6) 0 (b0 + 6) 0 2) b0 6 ((ra_cp (ra_cp (ra_cp (ra_cp (ra_cp (ra_cp w (b1 + 1) 0 (b0 + 1) 0 7) (b1 + 2) 0 (b0 + 2) 0 7) (b1 + 3) 0 (b0 + 3) 0 7) (b1 + 4) 0 (b0 + 4) 0 7) (b1 + 5) 0 (b0 + 5) 0 7) (b1 + 6) 0 (b0 + 6) 0 2) b1 6)) b1 7)) b1 8)) b0 9 ((ra_st (ra_st (ra_st (ra_cp (ra_cp (ra_cp (ra_cp (ra_cp (ra_cp w (b1 + 1) 0 (b0 + 1) 0 7) (b1 + 2) 0 (b0 + 2) 0 7) (b1 + 3) 0 (b0 + 3) 0 7) (b1 + 4) 0 (b0 + 4) 0 7) (b1 + 5) 0 (b0 + 5) 0 7) (b1 + 6) 0 (b0 + 6) 0 2) b0 6 ((ra_cp (ra_cp (ra_cp (ra_cp (ra_cp (ra_cp w (b1 + 1) 0 (b0 + 1) 0 7) (b1 + 2) 0 (b0 + 2) 0 7) (b1 + 3) 0 (b0 + 3) 0 7) (b1 + 4) 0 (b0 + 4) 0 7) (b1 + 5) 0 (b0 + 5) 0 7) (b1 + 6) 0 (b0 + 6) 0 2) b1 6)) b0 7 ((ra_st (ra_cp (ra_cp (ra_cp (ra_cp (ra_cp (ra_cp w (b1 + 1) 0 (b0 + 1) 0 7) (b1 + 2) 0 (b0 + 2) 0 7) (b1 + 3) 0 (b0 + 3) 0 7) (b1 + 4) 0 (b0 + 4) 0 7) (b1 + 5) 0 (b0 + 5) 0 7) (b1 + 6) 0 (b0 + 6) 0 2) b0 6 ((ra_cp (ra_cp (ra_cp (ra_cp (ra_cp (ra_cp w (b1 + 1) 0 (b0 + 1) 0 7) (b1 + 2) 0 (b0 + 2) 0 7) (b1 + 3) 0 (b0 + 3) 0 7) (b1 + 4) 0 (b0 + 4) 0 7) (b1 + 5) 0 (b0 + 5) 0 7) (b1 + 6) 0 (b0 + 6) 0 2) b1 6)) b1 7)) b0 8 ((ra_st (ra_st (ra_cp (ra_cp (ra_cp (ra_cp (ra_cp (ra_cp w (b1 + 1) 0 (b0 + 1) 0 7) (b1 + 2) 0 (b0 + 2) 0 7) (b1 + 3) 0 (b0 + 3) 0 7) (b1 + 4) 0 (b0 + 4) 0 7) (b1 + 5) 0 (b0 + 5) 0 7) (b1 + 6) 0 (b0 + 6) 0 2) b0 6 ((ra_cp (ra_cp (ra_cp (ra_cp (ra_cp (ra_cp w (b1 + 1) 0 (b0 + 1) 0 7) (b1 + 2) 0 (b0 + 2) 0 7) (b1 + 3) 0 (b0 + 3) 0 7) (b1 + 4) 0 (b0 + 4) 0 7) (b1 + 5) 0 (b0 + 5) 0 7) (b1 + 6) 0 (b0 + 6) 0 2) b1 6)) b0 7 ((ra_st (ra_cp (ra_cp (ra_cp (ra_cp (ra_cp (ra_cp w (b1 + 1) 0 (b0 + 1) 0 7) (b1 + 2) 0 (b0 + 2) 0 7) (b1 + 3) 0 (b0 + 3) 0 7) (b1 + 4) 0 (b0 + 4) 0 7) (b1 + 5) 0 (b0 + 5) 0 7) (b1 + 6) 0 (b0 + 6) 0 2) b0 6 ((ra_cp (ra_cp (ra_cp (ra_cp (ra_cp (ra_cp w (b1 + 1) 0 (b0 + 1) 0 7) (b1 + 2) 0 (b0 + 2) 0 7) (b1 + 3) 0 (b0 + 3) 0 7) (b1 + 4) 0 (b0 + 4) 0 7) (b1 + 5) 0 (b0 + 5) 0 7) (b1 + 6) 0 (b0 + 6) 0 2) b1 6)) b1 7)) b1 8)) b1 9)))) := rfl
def FX4_copy (k : Nat) (b0 : Nat) (b1 : Nat)  (w : ra_W) : Option (Int32 × ra_W) := fX4_copy k b0 b1 k 0  w
def pX4_copy_0 (Z : ra_Z) (r : Int32) (w1 : ra_W) (k : Nat) (b0 : Nat) (b1 : Nat) (n : Nat) : Prop := ∀  (w : ra_W), fX4_copy k b0 b1 n 0  w = some (r, w1) → ra_J Z 2 0 [(0, .ref ((zG Z).1 b0)), (1, .ref ((zG Z).1 b1))] [] w
set_option maxHeartbeats 4000000 in
theorem tX4_copy_0 {Z : ra_Z} {r : Int32} {w1 : ra_W} (C : ra_C Z cX4_copy 2 RX4 1 30) (hQ : ra_QV Z r w1) (hr : (zmt Z).sig.returnType = none) (k : Nat) (b0 : Nat) (b1 : Nat) (h0 : ra_S b0) (h1 : ra_S b1) (n : Nat) : pX4_copy_0 Z r w1 k b0 b1 (n + 1) := by
  intro w hf
  rw [fX4_copy_0] at hf
  refine rg_aload_n (pc := 0) C 1 rfl rfl dX4_copy_0 ?_
  refine rg_get (pc := 1) C b1 4 0 h1.1 (by decide) rfl inlX4 (by decide) wd_130 rfl dX4_copy_1 ?_
  refine rg_iconst (pc := 4) (v := 0) C dX4_copy_4 (by decide) ?_
  refine rg_aload_n (pc := 5) C 0 rfl rfl dX4_copy_5 ?_
  refine rg_get (pc := 6) C b0 4 0 h0.1 (by decide) rfl inlX4 (by decide) wd_130 rfl dX4_copy_6 ?_
  refine rg_iconst (pc := 9) (v := 0) C dX4_copy_9 (by decide) ?_
  refine rg_bipush (pc := 10) (v := 7) C dX4_copy_10 (by decide) ?_
  refine rg_copy (pc := 12) (s0 := 0) (d0 := 0) (m0 := 7) C wd_347 wd_318 wd_317 wd_9 (b1 + 1) (b0 + 1) h1.2.1 h0.2.1 (by decide) (by decide) (by decide) (by decide) (by decide) (by decide) (by decide) (by decide) (by decide) (Nat.le_of_ble_eq_true rfl) dX4_copy_12 ?_
  refine rg_aload_n (pc := 15) C 1 rfl rfl dX4_copy_15 ?_
  refine rg_get (pc := 16) C b1 4 1 h1.1 (by decide) rfl inlX4 (by decide) wd_133 rfl dX4_copy_16 ?_
  refine rg_iconst (pc := 19) (v := 0) C dX4_copy_19 (by decide) ?_
  refine rg_aload_n (pc := 20) C 0 rfl rfl dX4_copy_20 ?_
  refine rg_get (pc := 21) C b0 4 1 h0.1 (by decide) rfl inlX4 (by decide) wd_133 rfl dX4_copy_21 ?_
  refine rg_iconst (pc := 24) (v := 0) C dX4_copy_24 (by decide) ?_
  refine rg_bipush (pc := 25) (v := 7) C dX4_copy_25 (by decide) ?_
  refine rg_copy (pc := 27) (s0 := 0) (d0 := 0) (m0 := 7) C wd_347 wd_318 wd_317 wd_9 (b1 + 2) (b0 + 2) h1.2.2.1 h0.2.2.1 (by decide) (by decide) (by decide) (by decide) (by decide) (by decide) (by decide) (by decide) (by decide) (Nat.le_of_ble_eq_true rfl) dX4_copy_27 ?_
  refine rg_aload_n (pc := 30) C 1 rfl rfl dX4_copy_30 ?_
  refine rg_get (pc := 31) C b1 4 2 h1.1 (by decide) rfl inlX4 (by decide) wd_136 rfl dX4_copy_31 ?_
  refine rg_iconst (pc := 34) (v := 0) C dX4_copy_34 (by decide) ?_
  refine rg_aload_n (pc := 35) C 0 rfl rfl dX4_copy_35 ?_
  refine rg_get (pc := 36) C b0 4 2 h0.1 (by decide) rfl inlX4 (by decide) wd_136 rfl dX4_copy_36 ?_
  refine rg_iconst (pc := 39) (v := 0) C dX4_copy_39 (by decide) ?_
  refine rg_bipush (pc := 40) (v := 7) C dX4_copy_40 (by decide) ?_
  refine rg_copy (pc := 42) (s0 := 0) (d0 := 0) (m0 := 7) C wd_347 wd_318 wd_317 wd_9 (b1 + 3) (b0 + 3) h1.2.2.2.1 h0.2.2.2.1 (by decide) (by decide) (by decide) (by decide) (by decide) (by decide) (by decide) (by decide) (by decide) (Nat.le_of_ble_eq_true rfl) dX4_copy_42 ?_
  refine rg_aload_n (pc := 45) C 1 rfl rfl dX4_copy_45 ?_
  refine rg_get (pc := 46) C b1 4 3 h1.1 (by decide) rfl inlX4 (by decide) wd_139 rfl dX4_copy_46 ?_
  refine rg_iconst (pc := 49) (v := 0) C dX4_copy_49 (by decide) ?_
  refine rg_aload_n (pc := 50) C 0 rfl rfl dX4_copy_50 ?_
  refine rg_get (pc := 51) C b0 4 3 h0.1 (by decide) rfl inlX4 (by decide) wd_139 rfl dX4_copy_51 ?_
  refine rg_iconst (pc := 54) (v := 0) C dX4_copy_54 (by decide) ?_
  refine rg_bipush (pc := 55) (v := 7) C dX4_copy_55 (by decide) ?_
  refine rg_copy (pc := 57) (s0 := 0) (d0 := 0) (m0 := 7) C wd_347 wd_318 wd_317 wd_9 (b1 + 4) (b0 + 4) h1.2.2.2.2.1 h0.2.2.2.2.1 (by decide) (by decide) (by decide) (by decide) (by decide) (by decide) (by decide) (by decide) (by decide) (Nat.le_of_ble_eq_true rfl) dX4_copy_57 ?_
  refine rg_aload_n (pc := 60) C 1 rfl rfl dX4_copy_60 ?_
  refine rg_get (pc := 61) C b1 4 4 h1.1 (by decide) rfl inlX4 (by decide) wd_142 rfl dX4_copy_61 ?_
  refine rg_iconst (pc := 64) (v := 0) C dX4_copy_64 (by decide) ?_
  refine rg_aload_n (pc := 65) C 0 rfl rfl dX4_copy_65 ?_
  refine rg_get (pc := 66) C b0 4 4 h0.1 (by decide) rfl inlX4 (by decide) wd_142 rfl dX4_copy_66 ?_
  refine rg_iconst (pc := 69) (v := 0) C dX4_copy_69 (by decide) ?_
  refine rg_bipush (pc := 70) (v := 7) C dX4_copy_70 (by decide) ?_
  refine rg_copy (pc := 72) (s0 := 0) (d0 := 0) (m0 := 7) C wd_347 wd_318 wd_317 wd_9 (b1 + 5) (b0 + 5) h1.2.2.2.2.2.1 h0.2.2.2.2.2.1 (by decide) (by decide) (by decide) (by decide) (by decide) (by decide) (by decide) (by decide) (by decide) (Nat.le_of_ble_eq_true rfl) dX4_copy_72 ?_
  refine rg_aload_n (pc := 75) C 1 rfl rfl dX4_copy_75 ?_
  refine rg_get (pc := 76) C b1 4 5 h1.1 (by decide) rfl inlX4 (by decide) wd_145 rfl dX4_copy_76 ?_
  refine rg_iconst (pc := 79) (v := 0) C dX4_copy_79 (by decide) ?_
  refine rg_aload_n (pc := 80) C 0 rfl rfl dX4_copy_80 ?_
  refine rg_get (pc := 81) C b0 4 5 h0.1 (by decide) rfl inlX4 (by decide) wd_145 rfl dX4_copy_81 ?_
  refine rg_iconst (pc := 84) (v := 0) C dX4_copy_84 (by decide) ?_
  refine rg_iconst (pc := 85) (v := 2) C dX4_copy_85 (by decide) ?_
  refine rg_copy (pc := 86) (s0 := 0) (d0 := 0) (m0 := 2) C wd_347 wd_318 wd_317 wd_9 (b1 + 6) (b0 + 6) h1.2.2.2.2.2.2 h0.2.2.2.2.2.2 (by decide) (by decide) (by decide) (by decide) (by decide) (by decide) (by decide) (by decide) (by decide) (Nat.le_of_ble_eq_true rfl) dX4_copy_86 ?_
  refine rg_aload_n (pc := 89) C 0 rfl rfl dX4_copy_89 ?_
  refine rg_aload_n (pc := 90) C 1 rfl rfl dX4_copy_90 ?_
  refine rg_get (pc := 91) C b1 4 6 h1.1 (by decide) rfl inlX4 (by decide) wd_148 rfl dX4_copy_91 ?_
  refine rg_put (pc := 94) C b0 4 6 h0.1 (by decide) rfl inlX4 tyX4 tyX4_ok nmX4 (by decide) wd_148 rfl rfl rfl (Nat.le_of_ble_eq_true rfl) rfl dX4_copy_94 ?_
  refine rg_aload_n (pc := 97) C 0 rfl rfl dX4_copy_97 ?_
  refine rg_aload_n (pc := 98) C 1 rfl rfl dX4_copy_98 ?_
  refine rg_get (pc := 99) C b1 4 7 h1.1 (by decide) rfl inlX4 (by decide) wd_151 rfl dX4_copy_99 ?_
  refine rg_put (pc := 102) C b0 4 7 h0.1 (by decide) rfl inlX4 tyX4 tyX4_ok nmX4 (by decide) wd_151 rfl rfl rfl (Nat.le_of_ble_eq_true rfl) rfl dX4_copy_102 ?_
  refine rg_aload_n (pc := 105) C 0 rfl rfl dX4_copy_105 ?_
  refine rg_aload_n (pc := 106) C 1 rfl rfl dX4_copy_106 ?_
  refine rg_get (pc := 107) C b1 4 8 h1.1 (by decide) rfl inlX4 (by decide) wd_154 rfl dX4_copy_107 ?_
  refine rg_put (pc := 110) C b0 4 8 h0.1 (by decide) rfl inlX4 tyX4 tyX4_ok nmX4 (by decide) wd_154 rfl rfl rfl (Nat.le_of_ble_eq_true rfl) rfl dX4_copy_110 ?_
  refine rg_aload_n (pc := 113) C 0 rfl rfl dX4_copy_113 ?_
  refine rg_aload_n (pc := 114) C 1 rfl rfl dX4_copy_114 ?_
  refine rg_get (pc := 115) C b1 4 9 h1.1 (by decide) rfl inlX4 (by decide) wd_157 rfl dX4_copy_115 ?_
  refine rg_put (pc := 118) C b0 4 9 h0.1 (by decide) rfl inlX4 tyX4 tyX4_ok nmX4 (by decide) wd_157 rfl rfl rfl (Nat.le_of_ble_eq_true rfl) rfl dX4_copy_118 ?_
  exact rg_vret (pc := 121) C hQ hr hf dX4_copy_121
theorem tX4_copy {Z : ra_Z} {r : Int32} {w1 : ra_W} (C : ra_C Z cX4_copy 2 RX4 1 30) (hQ : ra_QV Z r w1) (hr : (zmt Z).sig.returnType = none) (k : Nat) (b0 : Nat) (b1 : Nat) (h0 : ra_S b0) (h1 : ra_S b1) : ∀ n : Nat, pX4_copy_0 Z r w1 k b0 b1 n := by
  intro n
  induction n with
  | zero => exact fun _ h => by cases h
  | succ n ih => exact tX4_copy_0 C hQ hr k b0 b1 h0 h1 n
theorem cX4_copy (l : Launch) (G : ra_G) (hj : ra_inj G) (k : Nat) (b0 : Nat) (b1 : Nat) (h0 : ra_S b0) (h1 : ra_S b1)  (w : ra_W) (r : Int32) (w1 : ra_W) (h : FX4_copy k b0 b1  w = some (r, w1)) : ra_MV l G yX4_copy cX4_copy 2 none 1 30 [.ref (G.1 b0), .ref (G.1 b1)] w r w1 :=
  ra_entryV (own := RX4) (by decide) rfl (Nat.le_of_ble_eq_true rfl) hj (fun Z hl hG C hQ hr => by subst hl; subst hG; exact (tX4_copy C hQ hr k b0 b1 h0 h1 k) _ h)
theorem ysX4_copy : ra_YV yX4_copy cX4_copy 2 none 1 RX4 := ⟨⟨wd_5, wd_346, by decide, by decide, by decide⟩, wd_344, wd_345⟩
/-- TrunkRadio$State.isOnAir -/
def fX4_isOnAir (k : Nat) (b0 : Nat) : Nat → Nat → Int32 → ra_W → Option (Int32 × ra_W)
  | 0, _, _, _ => none
  | n + 1, L, v1, w => match L with
    | _ => if ra_in v1 7 then if (w (b0 + 2) (ra_ix v1)) = 4 then (some (1, w)) else (if (w (b0 + 2) (ra_ix v1)) = 5 then (some (1, w)) else (some (0, w))) else none
theorem fX4_isOnAir_0 (k : Nat) (b0 : Nat) (n : Nat) (v1 : Int32) (w : ra_W) : fX4_isOnAir k b0 (n + 1) 0 v1 w = (if ra_in v1 7 then if (w (b0 + 2) (ra_ix v1)) = 4 then (some (1, w)) else (if (w (b0 + 2) (ra_ix v1)) = 5 then (some (1, w)) else (some (0, w))) else none) := rfl
def FX4_isOnAir (k : Nat) (b0 : Nat) (v1 : Int32) (w : ra_W) : Option (Int32 × ra_W) := fX4_isOnAir k b0 k 0 v1 w
def pX4_isOnAir_0 (Z : ra_Z) (r : Int32) (w1 : ra_W) (k : Nat) (b0 : Nat) (n : Nat) : Prop := ∀ (v1 : Int32) (w : ra_W), fX4_isOnAir k b0 n 0 v1 w = some (r, w1) → ra_J Z 2 0 [(0, .ref ((zG Z).1 b0)), (1, .int v1)] [] w
set_option maxHeartbeats 4000000 in
theorem tX4_isOnAir_0 {Z : ra_Z} {r : Int32} {w1 : ra_W} (C : ra_C Z cX4_isOnAir 2 RX4 0 0) (hQ : ra_QI Z r w1) (hr : (zmt Z).sig.returnType = (some .boolean)) (k : Nat) (b0 : Nat) (h0 : ra_S b0) (n : Nat) : pX4_isOnAir_0 Z r w1 k b0 (n + 1) := by
  intro v1 w hf
  rw [fX4_isOnAir_0] at hf
  refine rg_aload_n (pc := 0) C 0 rfl rfl dX4_isOnAir_0 ?_
  refine rg_get (pc := 1) C b0 4 1 h0.1 (by decide) rfl inlX4 (by decide) wd_133 rfl dX4_isOnAir_1 ?_
  refine rg_iload_n (pc := 4) C 1 rfl rfl dX4_isOnAir_4 ?_
  obtain ⟨g1, hf⟩ := ra_gd hf
  refine rg_iald (pc := 5) (j := (ra_ix v1)) C (b0 + 2) h0.2.2.1 rfl g1 dX4_isOnAir_5 ?_
  refine rg_iconst (pc := 6) (v := 4) C dX4_isOnAir_6 (by decide) ?_
  refine rg_icmp_eq (pc := 7) (tgt := 20) C dX4_isOnAir_7 (by decide) (fun c2 => ?_) (fun c2 => ?_)
  · replace hf := ra_t hf c2
    refine rg_iconst (pc := 20) (v := 1) C dX4_isOnAir_20 (by decide) ?_
    refine rg_goto (pc := 21) (tgt := 25) C dX4_isOnAir_21 (by decide) ?_
    exact rg_zret (pc := 25) C hQ hr (by decide) hf dX4_isOnAir_25
  · replace hf := ra_f hf c2
    refine rg_aload_n (pc := 10) C 0 rfl rfl dX4_isOnAir_10 ?_
    refine rg_get (pc := 11) C b0 4 1 h0.1 (by decide) rfl inlX4 (by decide) wd_133 rfl dX4_isOnAir_11 ?_
    refine rg_iload_n (pc := 14) C 1 rfl rfl dX4_isOnAir_14 ?_
    refine rg_iald (pc := 15) (j := (ra_ix v1)) C (b0 + 2) h0.2.2.1 rfl g1 dX4_isOnAir_15 ?_
    refine rg_iconst (pc := 16) (v := 5) C dX4_isOnAir_16 (by decide) ?_
    refine rg_icmp_ne (pc := 17) (tgt := 24) C dX4_isOnAir_17 (by decide) (fun c3 => ?_) (fun c3 => ?_)
    · replace hf := ra_f hf c3
      refine rg_iconst (pc := 24) (v := 0) C dX4_isOnAir_24 (by decide) ?_
      exact rg_zret (pc := 25) C hQ hr (by decide) hf dX4_isOnAir_25
    · replace hf := ra_t hf c3
      refine rg_iconst (pc := 20) (v := 1) C dX4_isOnAir_20 (by decide) ?_
      refine rg_goto (pc := 21) (tgt := 25) C dX4_isOnAir_21 (by decide) ?_
      exact rg_zret (pc := 25) C hQ hr (by decide) hf dX4_isOnAir_25
theorem tX4_isOnAir {Z : ra_Z} {r : Int32} {w1 : ra_W} (C : ra_C Z cX4_isOnAir 2 RX4 0 0) (hQ : ra_QI Z r w1) (hr : (zmt Z).sig.returnType = (some .boolean)) (k : Nat) (b0 : Nat) (h0 : ra_S b0) : ∀ n : Nat, pX4_isOnAir_0 Z r w1 k b0 n := by
  intro n
  induction n with
  | zero => exact fun _ _ h => by cases h
  | succ n ih => exact tX4_isOnAir_0 C hQ hr k b0 h0 n
theorem cX4_isOnAir (l : Launch) (G : ra_G) (hj : ra_inj G) (k : Nat) (b0 : Nat) (h0 : ra_S b0) (v1 : Int32) (w : ra_W) (r : Int32) (w1 : ra_W) (h : FX4_isOnAir k b0 v1 w = some (r, w1)) : ra_MI l G yX4_isOnAir cX4_isOnAir 2 (some .boolean) 0 0 [.ref (G.1 b0), .int v1] w r w1 :=
  ra_entryI (own := RX4) (by decide) rfl (Nat.le_of_ble_eq_true rfl) hj (fun Z hl hG C hQ hr => by subst hl; subst hG; exact (tX4_isOnAir C hQ hr k b0 h0 k) _ _ h)
theorem ysX4_isOnAir : ra_YV yX4_isOnAir cX4_isOnAir 2 (some .boolean) 1 RX4 := ⟨⟨wd_5, wd_420, by decide, by decide, by decide⟩, wd_418, wd_419⟩
