/-- TrunkRadioModel.freeAt -/
def fX6_freeAt (k : Nat) (b1 : Nat) : Nat → Nat → Int32 → Int32 → Int32 → Int32 → Int32 → ra_W → Option (Int32 × ra_W)
  | 0, _, _, _, _, _, _, _ => none
  | n + 1, L, v2, v3, v4, s0, s1, w => match L with
    | 0 => if ra_in (3 + v2) 19 then fX6_freeAt k b1 n 1 v2 (w 136 (ra_ix (3 + v2))) 0 0 0 w else none
    | 1 => if (w 136 0) ≤ v4 then (some (v3, w)) else (if ra_in (34 + v4) 41 then ra_bind (FX6_has k (w b1 (ra_ix (34 + v4))) v2 w) (fun r3 w4 => if r3 = 0 then (fX6_freeAt k b1 n 2 v2 0 v4 0 v3 w4) else (fX6_freeAt k b1 n 2 v2 0 v4 1 v3 w4)) else none)
    | _ => fX6_freeAt k b1 n 1 v2 (s1 - s0) (v4 + 1) 0 0 w
theorem fX6_freeAt_0 (k : Nat) (b1 : Nat) (n : Nat) (v2 : Int32) (v3 : Int32) (v4 : Int32) (s0 : Int32) (s1 : Int32) (w : ra_W) : fX6_freeAt k b1 (n + 1) 0 v2 v3 v4 s0 s1 w = (if ra_in (3 + v2) 19 then fX6_freeAt k b1 n 1 v2 (w 136 (ra_ix (3 + v2))) 0 0 0 w else none) := rfl
theorem fX6_freeAt_1 (k : Nat) (b1 : Nat) (n : Nat) (v2 : Int32) (v3 : Int32) (v4 : Int32) (s0 : Int32) (s1 : Int32) (w : ra_W) : fX6_freeAt k b1 (n + 1) 1 v2 v3 v4 s0 s1 w = (if (w 136 0) ≤ v4 then (some (v3, w)) else (if ra_in (34 + v4) 41 then ra_bind (FX6_has k (w b1 (ra_ix (34 + v4))) v2 w) (fun r3 w4 => if r3 = 0 then (fX6_freeAt k b1 n 2 v2 0 v4 0 v3 w4) else (fX6_freeAt k b1 n 2 v2 0 v4 1 v3 w4)) else none)) := rfl
theorem fX6_freeAt_2 (k : Nat) (b1 : Nat) (n : Nat) (v2 : Int32) (v3 : Int32) (v4 : Int32) (s0 : Int32) (s1 : Int32) (w : ra_W) : fX6_freeAt k b1 (n + 1) 2 v2 v3 v4 s0 s1 w = (fX6_freeAt k b1 n 1 v2 (s1 - s0) (v4 + 1) 0 0 w) := rfl
def FX6_freeAt (k : Nat) (b1 : Nat) (v2 : Int32) (w : ra_W) : Option (Int32 × ra_W) := fX6_freeAt k b1 k 0 v2 0 0 0 0 w
def pX6_freeAt_0 (Z : ra_Z) (r : Int32) (w1 : ra_W) (k : Nat) (b1 : Nat) (n : Nat) : Prop := ∀ (v2 : Int32) (v3 : Int32) (v4 : Int32) (s0 : Int32) (s1 : Int32) (w : ra_W), fX6_freeAt k b1 n 0 v2 v3 v4 s0 s1 w = some (r, w1) → ra_J Z 5 0 [(0, .ref ((zG Z).1 134)), (1, .ref ((zG Z).1 b1)), (2, .int v2)] [] w
def pX6_freeAt_1 (Z : ra_Z) (r : Int32) (w1 : ra_W) (k : Nat) (b1 : Nat) (n : Nat) : Prop := ∀ (v2 : Int32) (v3 : Int32) (v4 : Int32) (s0 : Int32) (s1 : Int32) (w : ra_W), fX6_freeAt k b1 n 1 v2 v3 v4 s0 s1 w = some (r, w1) → ra_J Z 5 12 [(0, .ref ((zG Z).1 134)), (1, .ref ((zG Z).1 b1)), (2, .int v2), (3, .int v3), (4, .int v4)] [] w
def pX6_freeAt_2 (Z : ra_Z) (r : Int32) (w1 : ra_W) (k : Nat) (b1 : Nat) (n : Nat) : Prop := ∀ (v2 : Int32) (v3 : Int32) (v4 : Int32) (s0 : Int32) (s1 : Int32) (w : ra_W), fX6_freeAt k b1 n 2 v2 v3 v4 s0 s1 w = some (r, w1) → ra_J Z 5 43 [(0, .ref ((zG Z).1 134)), (1, .ref ((zG Z).1 b1)), (2, .int v2), (4, .int v4)] [.int s0, .int s1] w
set_option maxHeartbeats 4000000 in
theorem tX6_freeAt_0 {Z : ra_Z} {r : Int32} {w1 : ra_W} (C : ra_C Z cX6_freeAt 5 RX6 1 21) (hQ : ra_QI Z r w1) (hr : (zmt Z).sig.returnType = (some .int)) (k : Nat) (b1 : Nat) (h1 : ra_kd b1 = (10, 41)) (n : Nat) (ih1 : pX6_freeAt_1 Z r w1 k b1 n) : pX6_freeAt_0 Z r w1 k b1 (n + 1) := by
  intro v2 v3 v4 s0 s1 w hf
  rw [fX6_freeAt_0] at hf
  refine rg_aload_n (pc := 0) C 0 rfl rfl dX6_freeAt_0 ?_
  refine rg_get (pc := 1) C 134 6 9 kd_134 (by decide) rfl inlX6 (by decide) wd_605 rfl dX6_freeAt_1 ?_
  refine rg_iconst (pc := 4) (v := 3) C dX6_freeAt_4 (by decide) ?_
  refine rg_iload_n (pc := 5) C 2 rfl rfl dX6_freeAt_5 ?_
  refine rg_iadd (pc := 6) C dX6_freeAt_6 ?_
  obtain ⟨g1, hf⟩ := ra_gd hf
  refine rg_iald (pc := 7) (j := (ra_ix (3 + v2))) C 136 kd_136 rfl g1 dX6_freeAt_7 ?_
  refine rg_istore_n (pc := 8) (lv' := [(0, .ref ((zG Z).1 134)), (1, .ref ((zG Z).1 b1)), (2, .int v2), (3, .int (w 136 (ra_ix (3 + v2))))]) C [1, 2, 3, 0] rfl rfl (by decide) dX6_freeAt_8 ?_
  refine rg_iconst (pc := 9) (v := 0) C dX6_freeAt_9 (by decide) ?_
  refine rg_istore (pc := 10) (lv' := [(0, .ref ((zG Z).1 134)), (1, .ref ((zG Z).1 b1)), (2, .int v2), (3, .int (w 136 (ra_ix (3 + v2)))), (4, .int 0)]) C [1, 2, 3, 4, 0] rfl (by decide) dX6_freeAt_10 ?_
  exact ih1 _ _ _ _ _ _ hf
set_option maxHeartbeats 4000000 in
theorem tX6_freeAt_1 {Z : ra_Z} {r : Int32} {w1 : ra_W} (C : ra_C Z cX6_freeAt 5 RX6 1 21) (hQ : ra_QI Z r w1) (hr : (zmt Z).sig.returnType = (some .int)) (k : Nat) (b1 : Nat) (h1 : ra_kd b1 = (10, 41)) (n : Nat) (ih2 : pX6_freeAt_2 Z r w1 k b1 n) : pX6_freeAt_1 Z r w1 k b1 (n + 1) := by
  intro v2 v3 v4 s0 s1 w hf
  rw [fX6_freeAt_1] at hf
  refine rg_iload (pc := 12) C 4 rfl dX6_freeAt_12 ?_
  refine rg_aload_n (pc := 14) C 0 rfl rfl dX6_freeAt_14 ?_
  refine rg_get (pc := 15) C 134 6 9 kd_134 (by decide) rfl inlX6 (by decide) wd_605 rfl dX6_freeAt_15 ?_
  refine rg_iconst (pc := 18) (v := 0) C dX6_freeAt_18 (by decide) ?_
  refine rg_iald (pc := 19) (j := 0) C 136 kd_136 (by decide) (by decide) dX6_freeAt_19 ?_
  refine rg_icmp_ge (pc := 20) (tgt := 51) C dX6_freeAt_20 (by decide) (fun c1 => ?_) (fun c1 => ?_)
  · replace hf := ra_t hf c1
    refine rg_iload_n (pc := 51) C 3 rfl rfl dX6_freeAt_51 ?_
    exact rg_iret (pc := 52) C hQ hr hf dX6_freeAt_52
  · replace hf := ra_f hf c1
    refine rg_iload_n (pc := 23) C 3 rfl rfl dX6_freeAt_23 ?_
    refine rg_aload_n (pc := 24) C 1 rfl rfl dX6_freeAt_24 ?_
    refine rg_bipush (pc := 25) (v := 34) C dX6_freeAt_25 (by decide) ?_
    refine rg_iload (pc := 27) C 4 rfl dX6_freeAt_27 ?_
    refine rg_iadd (pc := 29) C dX6_freeAt_29 ?_
    obtain ⟨g2, hf⟩ := ra_gd hf
    refine rg_iald (pc := 30) (j := (ra_ix (34 + v4))) C b1 h1 rfl g2 dX6_freeAt_30 ?_
    refine rg_iload_n (pc := 31) C 2 rfl rfl dX6_freeAt_31 ?_
    obtain ⟨r3, w4, e5, hf⟩ := ra_bd hf
    refine rg_callSI (pc := 32) (As := [.int (w b1 (ra_ix (34 + v4))), .int v2]) (st := [.int v3]) C (kX6_has (zl Z) (zG Z) C.hj k _ _ _ _ _ e5) ysX6_has rfl wd_777 ⟨Nat.le_of_ble_eq_true rfl, Nat.le_of_ble_eq_true rfl⟩ rfl (Nat.le_of_ble_eq_true rfl) dX6_freeAt_32 ?_
    refine rg_if_eq (pc := 35) (tgt := 42) C dX6_freeAt_35 (by decide) (fun c6 => ?_) (fun c6 => ?_)
    · replace hf := ra_t hf c6
      refine rg_iconst (pc := 42) (v := 0) C dX6_freeAt_42 (by decide) ?_
      refine rg_sub [0, 1, 2, 4] rfl ?_
      exact ih2 _ _ _ _ _ _ hf
    · replace hf := ra_f hf c6
      refine rg_iconst (pc := 38) (v := 1) C dX6_freeAt_38 (by decide) ?_
      refine rg_goto (pc := 39) (tgt := 43) C dX6_freeAt_39 (by decide) ?_
      refine rg_sub [0, 1, 2, 4] rfl ?_
      exact ih2 _ _ _ _ _ _ hf
set_option maxHeartbeats 4000000 in
theorem tX6_freeAt_2 {Z : ra_Z} {r : Int32} {w1 : ra_W} (C : ra_C Z cX6_freeAt 5 RX6 1 21) (hQ : ra_QI Z r w1) (hr : (zmt Z).sig.returnType = (some .int)) (k : Nat) (b1 : Nat) (h1 : ra_kd b1 = (10, 41)) (n : Nat) (ih1 : pX6_freeAt_1 Z r w1 k b1 n) : pX6_freeAt_2 Z r w1 k b1 (n + 1) := by
  intro v2 v3 v4 s0 s1 w hf
  rw [fX6_freeAt_2] at hf
  refine rg_isub (pc := 43) C dX6_freeAt_43 ?_
  refine rg_istore_n (pc := 44) (lv' := [(0, .ref ((zG Z).1 134)), (1, .ref ((zG Z).1 b1)), (2, .int v2), (3, .int (s1 - s0)), (4, .int v4)]) C [1, 2, 3, 0, 4] rfl rfl (by decide) dX6_freeAt_44 ?_
  refine rg_iinc (pc := 45) (v := (v4 + 1)) (lv' := [(0, .ref ((zG Z).1 134)), (1, .ref ((zG Z).1 b1)), (2, .int v2), (3, .int (s1 - s0)), (4, .int (v4 + 1))]) C 4 rfl [1, 2, 3, 4, 0] (ra_ii (by decide)) rfl (by decide) dX6_freeAt_45 ?_
  refine rg_goto (pc := 48) (tgt := 12) C dX6_freeAt_48 (by decide) ?_
  exact ih1 _ _ _ _ _ _ hf
theorem tX6_freeAt {Z : ra_Z} {r : Int32} {w1 : ra_W} (C : ra_C Z cX6_freeAt 5 RX6 1 21) (hQ : ra_QI Z r w1) (hr : (zmt Z).sig.returnType = (some .int)) (k : Nat) (b1 : Nat) (h1 : ra_kd b1 = (10, 41)) : ∀ n : Nat, pX6_freeAt_0 Z r w1 k b1 n ∧ pX6_freeAt_1 Z r w1 k b1 n ∧ pX6_freeAt_2 Z r w1 k b1 n := by
  intro n
  induction n with
  | zero => exact ⟨(fun _ _ _ _ _ _ h => by cases h), (fun _ _ _ _ _ _ h => by cases h), (fun _ _ _ _ _ _ h => by cases h)⟩
  | succ n ih =>
    obtain ⟨ih0, ih1, ih2⟩ := ih
    exact ⟨tX6_freeAt_0 C hQ hr k b1 h1 n ih1, tX6_freeAt_1 C hQ hr k b1 h1 n ih2, tX6_freeAt_2 C hQ hr k b1 h1 n ih1⟩
theorem kX6_freeAt (l : Launch) (G : ra_G) (hj : ra_inj G) (k : Nat) (b1 : Nat) (h1 : ra_kd b1 = (10, 41)) (v2 : Int32) (w : ra_W) (r : Int32) (w1 : ra_W) (h : FX6_freeAt k b1 v2 w = some (r, w1)) : ra_MI l G yX6_freeAt cX6_freeAt 5 (some .int) 1 21 [.ref (G.1 134), .ref (G.1 b1), .int v2] w r w1 :=
  ra_entryI (own := RX6) (by decide) rfl (Nat.le_of_ble_eq_true rfl) hj (fun Z hl hG C hQ hr => by subst hl; subst hG; exact (tX6_freeAt C hQ hr k b1 h1 k).1 _ _ _ _ _ _ h)
theorem ysX6_freeAt : ra_YV yX6_freeAt cX6_freeAt 5 (some .int) 2 RX6 := ⟨⟨wd_7, wd_783, by decide, by decide, by decide⟩, wd_782, wp_40⟩
/-- TrunkRadioModel.talkerOf -/
def fX6_talkerOf (k : Nat) (b1 : Nat) : Nat → Nat → Int32 → Int32 → Int32 → Int32 → ra_W → Option (Int32 × ra_W)
  | 0, _, _, _, _, _, _ => none
  | n + 1, L, v2, v3, v4, s0, w => match L with
    | 0 => fX6_talkerOf k b1 n 1 v2 (-9) 0 0 w
    | 1 => if (w 136 0) ≤ v4 then (some (v3, w)) else (if ra_in (13 + v4) 41 then if (w b1 (ra_ix (13 + v4))) = 4 then (if ra_in (5 + v4) 19 then if (w 136 (ra_ix (5 + v4))) = v2 then (fX6_talkerOf k b1 n 3 v2 0 v4 v4 w) else (fX6_talkerOf k b1 n 2 v2 v3 v4 0 w) else none) else (fX6_talkerOf k b1 n 2 v2 v3 v4 0 w) else none)
    | 2 => fX6_talkerOf k b1 n 3 v2 0 v4 v3 w
    | _ => fX6_talkerOf k b1 n 1 v2 s0 (v4 + 1) 0 w
theorem fX6_talkerOf_0 (k : Nat) (b1 : Nat) (n : Nat) (v2 : Int32) (v3 : Int32) (v4 : Int32) (s0 : Int32) (w : ra_W) : fX6_talkerOf k b1 (n + 1) 0 v2 v3 v4 s0 w = (fX6_talkerOf k b1 n 1 v2 (-9) 0 0 w) := rfl
theorem fX6_talkerOf_1 (k : Nat) (b1 : Nat) (n : Nat) (v2 : Int32) (v3 : Int32) (v4 : Int32) (s0 : Int32) (w : ra_W) : fX6_talkerOf k b1 (n + 1) 1 v2 v3 v4 s0 w = (if (w 136 0) ≤ v4 then (some (v3, w)) else (if ra_in (13 + v4) 41 then if (w b1 (ra_ix (13 + v4))) = 4 then (if ra_in (5 + v4) 19 then if (w 136 (ra_ix (5 + v4))) = v2 then (fX6_talkerOf k b1 n 3 v2 0 v4 v4 w) else (fX6_talkerOf k b1 n 2 v2 v3 v4 0 w) else none) else (fX6_talkerOf k b1 n 2 v2 v3 v4 0 w) else none)) := rfl
theorem fX6_talkerOf_2 (k : Nat) (b1 : Nat) (n : Nat) (v2 : Int32) (v3 : Int32) (v4 : Int32) (s0 : Int32) (w : ra_W) : fX6_talkerOf k b1 (n + 1) 2 v2 v3 v4 s0 w = (fX6_talkerOf k b1 n 3 v2 0 v4 v3 w) := rfl
theorem fX6_talkerOf_3 (k : Nat) (b1 : Nat) (n : Nat) (v2 : Int32) (v3 : Int32) (v4 : Int32) (s0 : Int32) (w : ra_W) : fX6_talkerOf k b1 (n + 1) 3 v2 v3 v4 s0 w = (fX6_talkerOf k b1 n 1 v2 s0 (v4 + 1) 0 w) := rfl
def FX6_talkerOf (k : Nat) (b1 : Nat) (v2 : Int32) (w : ra_W) : Option (Int32 × ra_W) := fX6_talkerOf k b1 k 0 v2 0 0 0 w
def pX6_talkerOf_0 (Z : ra_Z) (r : Int32) (w1 : ra_W) (k : Nat) (b1 : Nat) (n : Nat) : Prop := ∀ (v2 : Int32) (v3 : Int32) (v4 : Int32) (s0 : Int32) (w : ra_W), fX6_talkerOf k b1 n 0 v2 v3 v4 s0 w = some (r, w1) → ra_J Z 5 0 [(0, .ref ((zG Z).1 134)), (1, .ref ((zG Z).1 b1)), (2, .int v2)] [] w
def pX6_talkerOf_1 (Z : ra_Z) (r : Int32) (w1 : ra_W) (k : Nat) (b1 : Nat) (n : Nat) : Prop := ∀ (v2 : Int32) (v3 : Int32) (v4 : Int32) (s0 : Int32) (w : ra_W), fX6_talkerOf k b1 n 1 v2 v3 v4 s0 w = some (r, w1) → ra_J Z 5 6 [(0, .ref ((zG Z).1 134)), (1, .ref ((zG Z).1 b1)), (2, .int v2), (3, .int v3), (4, .int v4)] [] w
def pX6_talkerOf_2 (Z : ra_Z) (r : Int32) (w1 : ra_W) (k : Nat) (b1 : Nat) (n : Nat) : Prop := ∀ (v2 : Int32) (v3 : Int32) (v4 : Int32) (s0 : Int32) (w : ra_W), fX6_talkerOf k b1 n 2 v2 v3 v4 s0 w = some (r, w1) → ra_J Z 5 46 [(0, .ref ((zG Z).1 134)), (1, .ref ((zG Z).1 b1)), (2, .int v2), (3, .int v3), (4, .int v4)] [] w
def pX6_talkerOf_3 (Z : ra_Z) (r : Int32) (w1 : ra_W) (k : Nat) (b1 : Nat) (n : Nat) : Prop := ∀ (v2 : Int32) (v3 : Int32) (v4 : Int32) (s0 : Int32) (w : ra_W), fX6_talkerOf k b1 n 3 v2 v3 v4 s0 w = some (r, w1) → ra_J Z 5 47 [(0, .ref ((zG Z).1 134)), (1, .ref ((zG Z).1 b1)), (2, .int v2), (4, .int v4)] [.int s0] w
set_option maxHeartbeats 4000000 in
theorem tX6_talkerOf_0 {Z : ra_Z} {r : Int32} {w1 : ra_W} (C : ra_C Z cX6_talkerOf 5 RX6 0 0) (hQ : ra_QI Z r w1) (hr : (zmt Z).sig.returnType = (some .int)) (k : Nat) (b1 : Nat) (h1 : ra_kd b1 = (10, 41)) (n : Nat) (ih1 : pX6_talkerOf_1 Z r w1 k b1 n) : pX6_talkerOf_0 Z r w1 k b1 (n + 1) := by
  intro v2 v3 v4 s0 w hf
  rw [fX6_talkerOf_0] at hf
  refine rg_bipush (pc := 0) (v := (-9)) C dX6_talkerOf_0 (by decide) ?_
  refine rg_istore_n (pc := 2) (lv' := [(0, .ref ((zG Z).1 134)), (1, .ref ((zG Z).1 b1)), (2, .int v2), (3, .int (-9))]) C [1, 2, 3, 0] rfl rfl (by decide) dX6_talkerOf_2 ?_
  refine rg_iconst (pc := 3) (v := 0) C dX6_talkerOf_3 (by decide) ?_
  refine rg_istore (pc := 4) (lv' := [(0, .ref ((zG Z).1 134)), (1, .ref ((zG Z).1 b1)), (2, .int v2), (3, .int (-9)), (4, .int 0)]) C [1, 2, 3, 4, 0] rfl (by decide) dX6_talkerOf_4 ?_
  exact ih1 _ _ _ _ _ hf
set_option maxHeartbeats 4000000 in
theorem tX6_talkerOf_1 {Z : ra_Z} {r : Int32} {w1 : ra_W} (C : ra_C Z cX6_talkerOf 5 RX6 0 0) (hQ : ra_QI Z r w1) (hr : (zmt Z).sig.returnType = (some .int)) (k : Nat) (b1 : Nat) (h1 : ra_kd b1 = (10, 41)) (n : Nat) (ih2 : pX6_talkerOf_2 Z r w1 k b1 n) (ih3 : pX6_talkerOf_3 Z r w1 k b1 n) : pX6_talkerOf_1 Z r w1 k b1 (n + 1) := by
  intro v2 v3 v4 s0 w hf
  rw [fX6_talkerOf_1] at hf
  refine rg_iload (pc := 6) C 4 rfl dX6_talkerOf_6 ?_
  refine rg_aload_n (pc := 8) C 0 rfl rfl dX6_talkerOf_8 ?_
  refine rg_get (pc := 9) C 134 6 9 kd_134 (by decide) rfl inlX6 (by decide) wd_605 rfl dX6_talkerOf_9 ?_
  refine rg_iconst (pc := 12) (v := 0) C dX6_talkerOf_12 (by decide) ?_
  refine rg_iald (pc := 13) (j := 0) C 136 kd_136 (by decide) (by decide) dX6_talkerOf_13 ?_
  refine rg_icmp_ge (pc := 14) (tgt := 54) C dX6_talkerOf_14 (by decide) (fun c1 => ?_) (fun c1 => ?_)
  · replace hf := ra_t hf c1
    refine rg_iload_n (pc := 54) C 3 rfl rfl dX6_talkerOf_54 ?_
    exact rg_iret (pc := 55) C hQ hr hf dX6_talkerOf_55
  · replace hf := ra_f hf c1
    refine rg_aload_n (pc := 17) C 1 rfl rfl dX6_talkerOf_17 ?_
    refine rg_bipush (pc := 18) (v := 13) C dX6_talkerOf_18 (by decide) ?_
    refine rg_iload (pc := 20) C 4 rfl dX6_talkerOf_20 ?_
    refine rg_iadd (pc := 22) C dX6_talkerOf_22 ?_
    obtain ⟨g2, hf⟩ := ra_gd hf
    refine rg_iald (pc := 23) (j := (ra_ix (13 + v4))) C b1 h1 rfl g2 dX6_talkerOf_23 ?_
    refine rg_iconst (pc := 24) (v := 4) C dX6_talkerOf_24 (by decide) ?_
    refine rg_icmp_ne (pc := 25) (tgt := 46) C dX6_talkerOf_25 (by decide) (fun c3 => ?_) (fun c3 => ?_)
    · replace hf := ra_f hf c3
      exact ih2 _ _ _ _ _ hf
    · replace hf := ra_t hf c3
      refine rg_aload_n (pc := 28) C 0 rfl rfl dX6_talkerOf_28 ?_
      refine rg_get (pc := 29) C 134 6 9 kd_134 (by decide) rfl inlX6 (by decide) wd_605 rfl dX6_talkerOf_29 ?_
      refine rg_iconst (pc := 32) (v := 5) C dX6_talkerOf_32 (by decide) ?_
      refine rg_iload (pc := 33) C 4 rfl dX6_talkerOf_33 ?_
      refine rg_iadd (pc := 35) C dX6_talkerOf_35 ?_
      obtain ⟨g4, hf⟩ := ra_gd hf
      refine rg_iald (pc := 36) (j := (ra_ix (5 + v4))) C 136 kd_136 rfl g4 dX6_talkerOf_36 ?_
      refine rg_iload_n (pc := 37) C 2 rfl rfl dX6_talkerOf_37 ?_
      refine rg_icmp_ne (pc := 38) (tgt := 46) C dX6_talkerOf_38 (by decide) (fun c5 => ?_) (fun c5 => ?_)
      · replace hf := ra_f hf c5
        exact ih2 _ _ _ _ _ hf
      · replace hf := ra_t hf c5
        refine rg_iload (pc := 41) C 4 rfl dX6_talkerOf_41 ?_
        refine rg_goto (pc := 43) (tgt := 47) C dX6_talkerOf_43 (by decide) ?_
        refine rg_sub [0, 1, 2, 4] rfl ?_
        exact ih3 _ _ _ _ _ hf
set_option maxHeartbeats 4000000 in
theorem tX6_talkerOf_2 {Z : ra_Z} {r : Int32} {w1 : ra_W} (C : ra_C Z cX6_talkerOf 5 RX6 0 0) (hQ : ra_QI Z r w1) (hr : (zmt Z).sig.returnType = (some .int)) (k : Nat) (b1 : Nat) (h1 : ra_kd b1 = (10, 41)) (n : Nat) (ih3 : pX6_talkerOf_3 Z r w1 k b1 n) : pX6_talkerOf_2 Z r w1 k b1 (n + 1) := by
  intro v2 v3 v4 s0 w hf
  rw [fX6_talkerOf_2] at hf
  refine rg_iload_n (pc := 46) C 3 rfl rfl dX6_talkerOf_46 ?_
  refine rg_sub [0, 1, 2, 4] rfl ?_
  exact ih3 _ _ _ _ _ hf
set_option maxHeartbeats 4000000 in
theorem tX6_talkerOf_3 {Z : ra_Z} {r : Int32} {w1 : ra_W} (C : ra_C Z cX6_talkerOf 5 RX6 0 0) (hQ : ra_QI Z r w1) (hr : (zmt Z).sig.returnType = (some .int)) (k : Nat) (b1 : Nat) (h1 : ra_kd b1 = (10, 41)) (n : Nat) (ih1 : pX6_talkerOf_1 Z r w1 k b1 n) : pX6_talkerOf_3 Z r w1 k b1 (n + 1) := by
  intro v2 v3 v4 s0 w hf
  rw [fX6_talkerOf_3] at hf
  refine rg_istore_n (pc := 47) (lv' := [(0, .ref ((zG Z).1 134)), (1, .ref ((zG Z).1 b1)), (2, .int v2), (3, .int s0), (4, .int v4)]) C [1, 2, 3, 0, 4] rfl rfl (by decide) dX6_talkerOf_47 ?_
  refine rg_iinc (pc := 48) (v := (v4 + 1)) (lv' := [(0, .ref ((zG Z).1 134)), (1, .ref ((zG Z).1 b1)), (2, .int v2), (3, .int s0), (4, .int (v4 + 1))]) C 4 rfl [1, 2, 3, 4, 0] (ra_ii (by decide)) rfl (by decide) dX6_talkerOf_48 ?_
  refine rg_goto (pc := 51) (tgt := 6) C dX6_talkerOf_51 (by decide) ?_
  exact ih1 _ _ _ _ _ hf
theorem tX6_talkerOf {Z : ra_Z} {r : Int32} {w1 : ra_W} (C : ra_C Z cX6_talkerOf 5 RX6 0 0) (hQ : ra_QI Z r w1) (hr : (zmt Z).sig.returnType = (some .int)) (k : Nat) (b1 : Nat) (h1 : ra_kd b1 = (10, 41)) : ∀ n : Nat, pX6_talkerOf_0 Z r w1 k b1 n ∧ pX6_talkerOf_1 Z r w1 k b1 n ∧ pX6_talkerOf_2 Z r w1 k b1 n ∧ pX6_talkerOf_3 Z r w1 k b1 n := by
  intro n
  induction n with
  | zero => exact ⟨(fun _ _ _ _ _ h => by cases h), (fun _ _ _ _ _ h => by cases h), (fun _ _ _ _ _ h => by cases h), (fun _ _ _ _ _ h => by cases h)⟩
  | succ n ih =>
    obtain ⟨ih0, ih1, ih2, ih3⟩ := ih
    exact ⟨tX6_talkerOf_0 C hQ hr k b1 h1 n ih1, tX6_talkerOf_1 C hQ hr k b1 h1 n ih2 ih3, tX6_talkerOf_2 C hQ hr k b1 h1 n ih3, tX6_talkerOf_3 C hQ hr k b1 h1 n ih1⟩
theorem kX6_talkerOf (l : Launch) (G : ra_G) (hj : ra_inj G) (k : Nat) (b1 : Nat) (h1 : ra_kd b1 = (10, 41)) (v2 : Int32) (w : ra_W) (r : Int32) (w1 : ra_W) (h : FX6_talkerOf k b1 v2 w = some (r, w1)) : ra_MI l G yX6_talkerOf cX6_talkerOf 5 (some .int) 0 0 [.ref (G.1 134), .ref (G.1 b1), .int v2] w r w1 :=
  ra_entryI (own := RX6) (by decide) rfl (Nat.le_of_ble_eq_true rfl) hj (fun Z hl hG C hQ hr => by subst hl; subst hG; exact (tX6_talkerOf C hQ hr k b1 h1 k).1 _ _ _ _ _ h)
theorem ysX6_talkerOf : ra_YV yX6_talkerOf cX6_talkerOf 5 (some .int) 2 RX6 := ⟨⟨wd_7, wd_768, by decide, by decide, by decide⟩, wd_767, wp_37⟩
/-- TrunkRadioModel.isAhead -/
def fX6_isAhead (k : Nat) (b1 : Nat) : Nat → Nat → Int32 → Int32 → ra_W → Option (Int32 × ra_W)
  | 0, _, _, _, _ => none
  | n + 1, L, v2, v3, w => match L with
    | _ => if ra_in (27 + v2) 41 then if ra_in (27 + v3) 41 then if (w b1 (ra_ix (27 + v2))) = (w b1 (ra_ix (27 + v3))) then (if ra_in (12 + v2) 19 then if ra_in (20 + v2) 41 then if ra_in (12 + v3) 19 then if ra_in (20 + v3) 41 then if ((4 * (w 136 (ra_ix (12 + v3)))) + (w b1 (ra_ix (20 + v3)))) < ((4 * (w 136 (ra_ix (12 + v2)))) + (w b1 (ra_ix (20 + v2)))) then (some (1, w)) else (if ((4 * (w 136 (ra_ix (12 + v2)))) + (w b1 (ra_ix (20 + v2)))) = ((4 * (w 136 (ra_ix (12 + v3)))) + (w b1 (ra_ix (20 + v3)))) then (if v3 ≤ v2 then (some (0, w)) else (some (1, w))) else (some (0, w))) else none else none else none else none) else (if (w b1 (ra_ix (27 + v2))) = 1 then (some (1, w)) else (some (0, w))) else none else none
theorem fX6_isAhead_0 (k : Nat) (b1 : Nat) (n : Nat) (v2 : Int32) (v3 : Int32) (w : ra_W) : fX6_isAhead k b1 (n + 1) 0 v2 v3 w = (if ra_in (27 + v2) 41 then if ra_in (27 + v3) 41 then if (w b1 (ra_ix (27 + v2))) = (w b1 (ra_ix (27 + v3))) then (if ra_in (12 + v2) 19 then if ra_in (20 + v2) 41 then if ra_in (12 + v3) 19 then if ra_in (20 + v3) 41 then if ((4 * (w 136 (ra_ix (12 + v3)))) + (w b1 (ra_ix (20 + v3)))) < ((4 * (w 136 (ra_ix (12 + v2)))) + (w b1 (ra_ix (20 + v2)))) then (some (1, w)) else (if ((4 * (w 136 (ra_ix (12 + v2)))) + (w b1 (ra_ix (20 + v2)))) = ((4 * (w 136 (ra_ix (12 + v3)))) + (w b1 (ra_ix (20 + v3)))) then (if v3 ≤ v2 then (some (0, w)) else (some (1, w))) else (some (0, w))) else none else none else none else none) else (if (w b1 (ra_ix (27 + v2))) = 1 then (some (1, w)) else (some (0, w))) else none else none) := rfl
def FX6_isAhead (k : Nat) (b1 : Nat) (v2 : Int32) (v3 : Int32) (w : ra_W) : Option (Int32 × ra_W) := fX6_isAhead k b1 k 0 v2 v3 w
def pX6_isAhead_0 (Z : ra_Z) (r : Int32) (w1 : ra_W) (k : Nat) (b1 : Nat) (n : Nat) : Prop := ∀ (v2 : Int32) (v3 : Int32) (w : ra_W), fX6_isAhead k b1 n 0 v2 v3 w = some (r, w1) → ra_J Z 6 0 [(0, .ref ((zG Z).1 134)), (1, .ref ((zG Z).1 b1)), (2, .int v2), (3, .int v3)] [] w
set_option maxHeartbeats 4000000 in
theorem tX6_isAhead_0 {Z : ra_Z} {r : Int32} {w1 : ra_W} (C : ra_C Z cX6_isAhead 6 RX6 0 0) (hQ : ra_QI Z r w1) (hr : (zmt Z).sig.returnType = (some .boolean)) (k : Nat) (b1 : Nat) (h1 : ra_kd b1 = (10, 41)) (n : Nat) : pX6_isAhead_0 Z r w1 k b1 (n + 1) := by
  intro v2 v3 w hf
  rw [fX6_isAhead_0] at hf
  refine rg_aload_n (pc := 0) C 1 rfl rfl dX6_isAhead_0 ?_
  refine rg_bipush (pc := 1) (v := 27) C dX6_isAhead_1 (by decide) ?_
  refine rg_iload_n (pc := 3) C 2 rfl rfl dX6_isAhead_3 ?_
  refine rg_iadd (pc := 4) C dX6_isAhead_4 ?_
  obtain ⟨g1, hf⟩ := ra_gd hf
  refine rg_iald (pc := 5) (j := (ra_ix (27 + v2))) C b1 h1 rfl g1 dX6_isAhead_5 ?_
  refine rg_aload_n (pc := 6) C 1 rfl rfl dX6_isAhead_6 ?_
  refine rg_bipush (pc := 7) (v := 27) C dX6_isAhead_7 (by decide) ?_
  refine rg_iload_n (pc := 9) C 3 rfl rfl dX6_isAhead_9 ?_
  refine rg_iadd (pc := 10) C dX6_isAhead_10 ?_
  obtain ⟨g2, hf⟩ := ra_gd hf
  refine rg_iald (pc := 11) (j := (ra_ix (27 + v3))) C b1 h1 rfl g2 dX6_isAhead_11 ?_
  refine rg_icmp_eq (pc := 12) (tgt := 31) C dX6_isAhead_12 (by decide) (fun c3 => ?_) (fun c3 => ?_)
  · replace hf := ra_t hf c3
    refine rg_iconst (pc := 31) (v := 4) C dX6_isAhead_31 (by decide) ?_
    refine rg_aload_n (pc := 32) C 0 rfl rfl dX6_isAhead_32 ?_
    refine rg_get (pc := 33) C 134 6 9 kd_134 (by decide) rfl inlX6 (by decide) wd_605 rfl dX6_isAhead_33 ?_
    refine rg_bipush (pc := 36) (v := 12) C dX6_isAhead_36 (by decide) ?_
    refine rg_iload_n (pc := 38) C 2 rfl rfl dX6_isAhead_38 ?_
    refine rg_iadd (pc := 39) C dX6_isAhead_39 ?_
    obtain ⟨g4, hf⟩ := ra_gd hf
    refine rg_iald (pc := 40) (j := (ra_ix (12 + v2))) C 136 kd_136 rfl g4 dX6_isAhead_40 ?_
    refine rg_imul (pc := 41) C dX6_isAhead_41 ?_
    refine rg_aload_n (pc := 42) C 1 rfl rfl dX6_isAhead_42 ?_
    refine rg_bipush (pc := 43) (v := 20) C dX6_isAhead_43 (by decide) ?_
    refine rg_iload_n (pc := 45) C 2 rfl rfl dX6_isAhead_45 ?_
    refine rg_iadd (pc := 46) C dX6_isAhead_46 ?_
    obtain ⟨g5, hf⟩ := ra_gd hf
    refine rg_iald (pc := 47) (j := (ra_ix (20 + v2))) C b1 h1 rfl g5 dX6_isAhead_47 ?_
    refine rg_iadd (pc := 48) C dX6_isAhead_48 ?_
    refine rg_istore (pc := 49) (lv' := [(0, .ref ((zG Z).1 134)), (1, .ref ((zG Z).1 b1)), (2, .int v2), (3, .int v3), (4, .int ((4 * (w 136 (ra_ix (12 + v2)))) + (w b1 (ra_ix (20 + v2)))))]) C [1, 2, 3, 4, 0] rfl (by decide) dX6_isAhead_49 ?_
    refine rg_iconst (pc := 51) (v := 4) C dX6_isAhead_51 (by decide) ?_
    refine rg_aload_n (pc := 52) C 0 rfl rfl dX6_isAhead_52 ?_
    refine rg_get (pc := 53) C 134 6 9 kd_134 (by decide) rfl inlX6 (by decide) wd_605 rfl dX6_isAhead_53 ?_
    refine rg_bipush (pc := 56) (v := 12) C dX6_isAhead_56 (by decide) ?_
    refine rg_iload_n (pc := 58) C 3 rfl rfl dX6_isAhead_58 ?_
    refine rg_iadd (pc := 59) C dX6_isAhead_59 ?_
    obtain ⟨g6, hf⟩ := ra_gd hf
    refine rg_iald (pc := 60) (j := (ra_ix (12 + v3))) C 136 kd_136 rfl g6 dX6_isAhead_60 ?_
    refine rg_imul (pc := 61) C dX6_isAhead_61 ?_
    refine rg_aload_n (pc := 62) C 1 rfl rfl dX6_isAhead_62 ?_
    refine rg_bipush (pc := 63) (v := 20) C dX6_isAhead_63 (by decide) ?_
    refine rg_iload_n (pc := 65) C 3 rfl rfl dX6_isAhead_65 ?_
    refine rg_iadd (pc := 66) C dX6_isAhead_66 ?_
    obtain ⟨g7, hf⟩ := ra_gd hf
    refine rg_iald (pc := 67) (j := (ra_ix (20 + v3))) C b1 h1 rfl g7 dX6_isAhead_67 ?_
    refine rg_iadd (pc := 68) C dX6_isAhead_68 ?_
    refine rg_istore (pc := 69) (lv' := [(0, .ref ((zG Z).1 134)), (1, .ref ((zG Z).1 b1)), (2, .int v2), (3, .int v3), (4, .int ((4 * (w 136 (ra_ix (12 + v2)))) + (w b1 (ra_ix (20 + v2))))), (5, .int ((4 * (w 136 (ra_ix (12 + v3)))) + (w b1 (ra_ix (20 + v3)))))]) C [1, 2, 3, 4, 5, 0] rfl (by decide) dX6_isAhead_69 ?_
    refine rg_iload (pc := 71) C 4 rfl dX6_isAhead_71 ?_
    refine rg_iload (pc := 73) C 5 rfl dX6_isAhead_73 ?_
    refine rg_icmp_gt (pc := 75) (tgt := 90) C dX6_isAhead_75 (by decide) (fun c8 => ?_) (fun c8 => ?_)
    · replace hf := ra_t hf c8
      refine rg_iconst (pc := 90) (v := 1) C dX6_isAhead_90 (by decide) ?_
      refine rg_goto (pc := 91) (tgt := 95) C dX6_isAhead_91 (by decide) ?_
      exact rg_zret (pc := 95) C hQ hr (by decide) hf dX6_isAhead_95
    · replace hf := ra_f hf c8
      refine rg_iload (pc := 78) C 4 rfl dX6_isAhead_78 ?_
      refine rg_iload (pc := 80) C 5 rfl dX6_isAhead_80 ?_
      refine rg_icmp_ne (pc := 82) (tgt := 94) C dX6_isAhead_82 (by decide) (fun c9 => ?_) (fun c9 => ?_)
      · replace hf := ra_f hf c9
        refine rg_iconst (pc := 94) (v := 0) C dX6_isAhead_94 (by decide) ?_
        exact rg_zret (pc := 95) C hQ hr (by decide) hf dX6_isAhead_95
      · replace hf := ra_t hf c9
        refine rg_iload_n (pc := 85) C 2 rfl rfl dX6_isAhead_85 ?_
        refine rg_iload_n (pc := 86) C 3 rfl rfl dX6_isAhead_86 ?_
        refine rg_icmp_ge (pc := 87) (tgt := 94) C dX6_isAhead_87 (by decide) (fun c10 => ?_) (fun c10 => ?_)
        · replace hf := ra_t hf c10
          refine rg_iconst (pc := 94) (v := 0) C dX6_isAhead_94 (by decide) ?_
          exact rg_zret (pc := 95) C hQ hr (by decide) hf dX6_isAhead_95
        · replace hf := ra_f hf c10
          refine rg_iconst (pc := 90) (v := 1) C dX6_isAhead_90 (by decide) ?_
          refine rg_goto (pc := 91) (tgt := 95) C dX6_isAhead_91 (by decide) ?_
          exact rg_zret (pc := 95) C hQ hr (by decide) hf dX6_isAhead_95
  · replace hf := ra_f hf c3
    refine rg_aload_n (pc := 15) C 1 rfl rfl dX6_isAhead_15 ?_
    refine rg_bipush (pc := 16) (v := 27) C dX6_isAhead_16 (by decide) ?_
    refine rg_iload_n (pc := 18) C 2 rfl rfl dX6_isAhead_18 ?_
    refine rg_iadd (pc := 19) C dX6_isAhead_19 ?_
    refine rg_iald (pc := 20) (j := (ra_ix (27 + v2))) C b1 h1 rfl g1 dX6_isAhead_20 ?_
    refine rg_iconst (pc := 21) (v := 1) C dX6_isAhead_21 (by decide) ?_
    refine rg_icmp_ne (pc := 22) (tgt := 29) C dX6_isAhead_22 (by decide) (fun c11 => ?_) (fun c11 => ?_)
    · replace hf := ra_f hf c11
      refine rg_iconst (pc := 29) (v := 0) C dX6_isAhead_29 (by decide) ?_
      exact rg_zret (pc := 30) C hQ hr (by decide) hf dX6_isAhead_30
    · replace hf := ra_t hf c11
      refine rg_iconst (pc := 25) (v := 1) C dX6_isAhead_25 (by decide) ?_
      refine rg_goto (pc := 26) (tgt := 30) C dX6_isAhead_26 (by decide) ?_
      exact rg_zret (pc := 30) C hQ hr (by decide) hf dX6_isAhead_30
theorem tX6_isAhead {Z : ra_Z} {r : Int32} {w1 : ra_W} (C : ra_C Z cX6_isAhead 6 RX6 0 0) (hQ : ra_QI Z r w1) (hr : (zmt Z).sig.returnType = (some .boolean)) (k : Nat) (b1 : Nat) (h1 : ra_kd b1 = (10, 41)) : ∀ n : Nat, pX6_isAhead_0 Z r w1 k b1 n := by
  intro n
  induction n with
  | zero => exact (fun _ _ _ h => by cases h)
  | succ n ih => exact tX6_isAhead_0 C hQ hr k b1 h1 n
theorem kX6_isAhead (l : Launch) (G : ra_G) (hj : ra_inj G) (k : Nat) (b1 : Nat) (h1 : ra_kd b1 = (10, 41)) (v2 : Int32) (v3 : Int32) (w : ra_W) (r : Int32) (w1 : ra_W) (h : FX6_isAhead k b1 v2 v3 w = some (r, w1)) : ra_MI l G yX6_isAhead cX6_isAhead 6 (some .boolean) 0 0 [.ref (G.1 134), .ref (G.1 b1), .int v2, .int v3] w r w1 :=
  ra_entryI (own := RX6) (by decide) rfl (Nat.le_of_ble_eq_true rfl) hj (fun Z hl hG C hQ hr => by subst hl; subst hG; exact (tX6_isAhead C hQ hr k b1 h1 k) _ _ _ h)
theorem ysX6_isAhead : ra_YV yX6_isAhead cX6_isAhead 6 (some .boolean) 3 RX6 := ⟨⟨wd_7, wd_760, by decide, by decide, by decide⟩, wd_759, wp_35⟩
/-- TrunkRadioModel.lines -/
def fX6_lines (k : Nat) (b1 : Nat) : Nat → Nat → Int32 → Int32 → ra_W → Option (Int32 × ra_W)
  | 0, _, _, _, _ => none
  | n + 1, L, v2, v3, w => match L with
    | 0 => fX6_lines k b1 n 1 0 0 (ra_st w 134 22 0)
    | 1 => if (w 136 0) ≤ v2 then (some (0, w)) else (if ra_in (13 + v2) 41 then if (w b1 (ra_ix (13 + v2))) = 3 then (fX6_lines k b1 n 2 v2 (w 134 22) w) else (fX6_lines k b1 n 4 v2 0 w) else none)
    | 2 => if v3 ≤ 0 then (fX6_lines k b1 n 3 v2 v3 w) else (if ra_in (v3 - 1) 7 then ra_bind (FX6_isAhead k b1 v2 (w 146 (ra_ix (v3 - 1))) w) (fun r3 w4 => if r3 = 0 then (fX6_lines k b1 n 3 v2 v3 w4) else (if ra_in v3 7 then fX6_lines k b1 n 2 v2 (v3 + (-1)) (ra_st w4 146 (ra_ix v3) (w4 146 (ra_ix (v3 - 1)))) else none)) else none)
    | 3 => if ra_in v3 7 then fX6_lines k b1 n 4 v2 0 (ra_st (ra_st w 146 (ra_ix v3) v2) 134 22 (((ra_st w 146 (ra_ix v3) v2) 134 22) + 1)) else none
    | _ => fX6_lines k b1 n 1 (v2 + 1) 0 w
theorem fX6_lines_0 (k : Nat) (b1 : Nat) (n : Nat) (v2 : Int32) (v3 : Int32) (w : ra_W) : fX6_lines k b1 (n + 1) 0 v2 v3 w = (fX6_lines k b1 n 1 0 0 (ra_st w 134 22 0)) := rfl
theorem fX6_lines_1 (k : Nat) (b1 : Nat) (n : Nat) (v2 : Int32) (v3 : Int32) (w : ra_W) : fX6_lines k b1 (n + 1) 1 v2 v3 w = (if (w 136 0) ≤ v2 then (some (0, w)) else (if ra_in (13 + v2) 41 then if (w b1 (ra_ix (13 + v2))) = 3 then (fX6_lines k b1 n 2 v2 (w 134 22) w) else (fX6_lines k b1 n 4 v2 0 w) else none)) := rfl
theorem fX6_lines_2 (k : Nat) (b1 : Nat) (n : Nat) (v2 : Int32) (v3 : Int32) (w : ra_W) : fX6_lines k b1 (n + 1) 2 v2 v3 w = (if v3 ≤ 0 then (fX6_lines k b1 n 3 v2 v3 w) else (if ra_in (v3 - 1) 7 then ra_bind (FX6_isAhead k b1 v2 (w 146 (ra_ix (v3 - 1))) w) (fun r3 w4 => if r3 = 0 then (fX6_lines k b1 n 3 v2 v3 w4) else (if ra_in v3 7 then fX6_lines k b1 n 2 v2 (v3 + (-1)) (ra_st w4 146 (ra_ix v3) (w4 146 (ra_ix (v3 - 1)))) else none)) else none)) := rfl
theorem fX6_lines_3 (k : Nat) (b1 : Nat) (n : Nat) (v2 : Int32) (v3 : Int32) (w : ra_W) : fX6_lines k b1 (n + 1) 3 v2 v3 w = (if ra_in v3 7 then fX6_lines k b1 n 4 v2 0 (ra_st (ra_st w 146 (ra_ix v3) v2) 134 22 (((ra_st w 146 (ra_ix v3) v2) 134 22) + 1)) else none) := rfl
theorem fX6_lines_4 (k : Nat) (b1 : Nat) (n : Nat) (v2 : Int32) (v3 : Int32) (w : ra_W) : fX6_lines k b1 (n + 1) 4 v2 v3 w = (fX6_lines k b1 n 1 (v2 + 1) 0 w) := rfl
def FX6_lines (k : Nat) (b1 : Nat)  (w : ra_W) : Option (Int32 × ra_W) := fX6_lines k b1 k 0 0 0 w
def pX6_lines_0 (Z : ra_Z) (r : Int32) (w1 : ra_W) (k : Nat) (b1 : Nat) (n : Nat) : Prop := ∀ (v2 : Int32) (v3 : Int32) (w : ra_W), fX6_lines k b1 n 0 v2 v3 w = some (r, w1) → ra_J Z 4 0 [(0, .ref ((zG Z).1 134)), (1, .ref ((zG Z).1 b1))] [] w
def pX6_lines_1 (Z : ra_Z) (r : Int32) (w1 : ra_W) (k : Nat) (b1 : Nat) (n : Nat) : Prop := ∀ (v2 : Int32) (v3 : Int32) (w : ra_W), fX6_lines k b1 n 1 v2 v3 w = some (r, w1) → ra_J Z 4 7 [(0, .ref ((zG Z).1 134)), (1, .ref ((zG Z).1 b1)), (2, .int v2)] [] w
def pX6_lines_2 (Z : ra_Z) (r : Int32) (w1 : ra_W) (k : Nat) (b1 : Nat) (n : Nat) : Prop := ∀ (v2 : Int32) (v3 : Int32) (w : ra_W), fX6_lines k b1 n 2 v2 v3 w = some (r, w1) → ra_J Z 4 32 [(0, .ref ((zG Z).1 134)), (1, .ref ((zG Z).1 b1)), (2, .int v2), (3, .int v3)] [] w
def pX6_lines_3 (Z : ra_Z) (r : Int32) (w1 : ra_W) (k : Nat) (b1 : Nat) (n : Nat) : Prop := ∀ (v2 : Int32) (v3 : Int32) (w : ra_W), fX6_lines k b1 n 3 v2 v3 w = some (r, w1) → ra_J Z 4 73 [(0, .ref ((zG Z).1 134)), (1, .ref ((zG Z).1 b1)), (2, .int v2), (3, .int v3)] [] w
def pX6_lines_4 (Z : ra_Z) (r : Int32) (w1 : ra_W) (k : Nat) (b1 : Nat) (n : Nat) : Prop := ∀ (v2 : Int32) (v3 : Int32) (w : ra_W), fX6_lines k b1 n 4 v2 v3 w = some (r, w1) → ra_J Z 4 90 [(0, .ref ((zG Z).1 134)), (1, .ref ((zG Z).1 b1)), (2, .int v2)] [] w
set_option maxHeartbeats 4000000 in
theorem tX6_lines_0 {Z : ra_Z} {r : Int32} {w1 : ra_W} (C : ra_C Z cX6_lines 4 RX6 1 25) (hQ : ra_QV Z r w1) (hr : (zmt Z).sig.returnType = none) (k : Nat) (b1 : Nat) (h1 : ra_kd b1 = (10, 41)) (n : Nat) (ih1 : pX6_lines_1 Z r w1 k b1 n) : pX6_lines_0 Z r w1 k b1 (n + 1) := by
  intro v2 v3 w hf
  rw [fX6_lines_0] at hf
  refine rg_aload_n (pc := 0) C 0 rfl rfl dX6_lines_0 ?_
  refine rg_iconst (pc := 1) (v := 0) C dX6_lines_1 (by decide) ?_
  refine rg_put (pc := 2) C 134 6 22 kd_134 (by decide) rfl inlX6 tyX6 tyX6_ok nmX6 (by decide) wd_618 rfl rfl rfl (Nat.le_of_ble_eq_true rfl) rfl dX6_lines_2 ?_
  refine rg_iconst (pc := 5) (v := 0) C dX6_lines_5 (by decide) ?_
  refine rg_istore_n (pc := 6) (lv' := [(0, .ref ((zG Z).1 134)), (1, .ref ((zG Z).1 b1)), (2, .int 0)]) C [1, 2, 0] rfl rfl (by decide) dX6_lines_6 ?_
  exact ih1 _ _ _ hf
set_option maxHeartbeats 4000000 in
theorem tX6_lines_1 {Z : ra_Z} {r : Int32} {w1 : ra_W} (C : ra_C Z cX6_lines 4 RX6 1 25) (hQ : ra_QV Z r w1) (hr : (zmt Z).sig.returnType = none) (k : Nat) (b1 : Nat) (h1 : ra_kd b1 = (10, 41)) (n : Nat) (ih2 : pX6_lines_2 Z r w1 k b1 n) (ih4 : pX6_lines_4 Z r w1 k b1 n) : pX6_lines_1 Z r w1 k b1 (n + 1) := by
  intro v2 v3 w hf
  rw [fX6_lines_1] at hf
  refine rg_iload_n (pc := 7) C 2 rfl rfl dX6_lines_7 ?_
  refine rg_aload_n (pc := 8) C 0 rfl rfl dX6_lines_8 ?_
  refine rg_get (pc := 9) C 134 6 9 kd_134 (by decide) rfl inlX6 (by decide) wd_605 rfl dX6_lines_9 ?_
  refine rg_iconst (pc := 12) (v := 0) C dX6_lines_12 (by decide) ?_
  refine rg_iald (pc := 13) (j := 0) C 136 kd_136 (by decide) (by decide) dX6_lines_13 ?_
  refine rg_icmp_ge (pc := 14) (tgt := 96) C dX6_lines_14 (by decide) (fun c1 => ?_) (fun c1 => ?_)
  · replace hf := ra_t hf c1
    exact rg_vret (pc := 96) C hQ hr hf dX6_lines_96
  · replace hf := ra_f hf c1
    refine rg_aload_n (pc := 17) C 1 rfl rfl dX6_lines_17 ?_
    refine rg_bipush (pc := 18) (v := 13) C dX6_lines_18 (by decide) ?_
    refine rg_iload_n (pc := 20) C 2 rfl rfl dX6_lines_20 ?_
    refine rg_iadd (pc := 21) C dX6_lines_21 ?_
    obtain ⟨g2, hf⟩ := ra_gd hf
    refine rg_iald (pc := 22) (j := (ra_ix (13 + v2))) C b1 h1 rfl g2 dX6_lines_22 ?_
    refine rg_iconst (pc := 23) (v := 3) C dX6_lines_23 (by decide) ?_
    refine rg_icmp_ne (pc := 24) (tgt := 90) C dX6_lines_24 (by decide) (fun c3 => ?_) (fun c3 => ?_)
    · replace hf := ra_f hf c3
      exact ih4 _ _ _ hf
    · replace hf := ra_t hf c3
      refine rg_aload_n (pc := 27) C 0 rfl rfl dX6_lines_27 ?_
      refine rg_get (pc := 28) C 134 6 22 kd_134 (by decide) rfl inlX6 (by decide) wd_618 rfl dX6_lines_28 ?_
      refine rg_istore_n (pc := 31) (lv' := [(0, .ref ((zG Z).1 134)), (1, .ref ((zG Z).1 b1)), (2, .int v2), (3, .int (w 134 22))]) C [1, 2, 3, 0] rfl rfl (by decide) dX6_lines_31 ?_
      exact ih2 _ _ _ hf
set_option maxHeartbeats 4000000 in
theorem tX6_lines_2 {Z : ra_Z} {r : Int32} {w1 : ra_W} (C : ra_C Z cX6_lines 4 RX6 1 25) (hQ : ra_QV Z r w1) (hr : (zmt Z).sig.returnType = none) (k : Nat) (b1 : Nat) (h1 : ra_kd b1 = (10, 41)) (n : Nat) (ih2 : pX6_lines_2 Z r w1 k b1 n) (ih3 : pX6_lines_3 Z r w1 k b1 n) : pX6_lines_2 Z r w1 k b1 (n + 1) := by
  intro v2 v3 w hf
  rw [fX6_lines_2] at hf
  refine rg_iload_n (pc := 32) C 3 rfl rfl dX6_lines_32 ?_
  refine rg_if_le (pc := 33) (tgt := 73) C dX6_lines_33 (by decide) (fun c1 => ?_) (fun c1 => ?_)
  · replace hf := ra_t hf c1
    exact ih3 _ _ _ hf
  · replace hf := ra_f hf c1
    refine rg_aload_n (pc := 36) C 0 rfl rfl dX6_lines_36 ?_
    refine rg_aload_n (pc := 37) C 1 rfl rfl dX6_lines_37 ?_
    refine rg_iload_n (pc := 38) C 2 rfl rfl dX6_lines_38 ?_
    refine rg_aload_n (pc := 39) C 0 rfl rfl dX6_lines_39 ?_
    refine rg_get (pc := 40) C 134 6 21 kd_134 (by decide) rfl inlX6 (by decide) wd_617 rfl dX6_lines_40 ?_
    refine rg_iload_n (pc := 43) C 3 rfl rfl dX6_lines_43 ?_
    refine rg_iconst (pc := 44) (v := 1) C dX6_lines_44 (by decide) ?_
    refine rg_isub (pc := 45) C dX6_lines_45 ?_
    obtain ⟨g2, hf⟩ := ra_gd hf
    refine rg_iald (pc := 46) (j := (ra_ix (v3 - 1))) C 146 kd_146 rfl g2 dX6_lines_46 ?_
    obtain ⟨r3, w4, e5, hf⟩ := ra_bd hf
    refine rg_callVI (pc := 47) (As := [.ref ((zG Z).1 b1), .int v2, .int (w 146 (ra_ix (v3 - 1)))]) (st := []) C (kX6_isAhead (zl Z) (zG Z) C.hj k b1 h1 _ _ _ _ _ e5) kd_134 (by decide) rfl ysX6_isAhead rfl wd_757 ⟨Nat.le_of_ble_eq_true rfl, Nat.le_of_ble_eq_true rfl⟩ rfl (Nat.le_of_ble_eq_true rfl) dX6_lines_47 ?_
    refine rg_if_eq (pc := 50) (tgt := 73) C dX6_lines_50 (by decide) (fun c6 => ?_) (fun c6 => ?_)
    · replace hf := ra_t hf c6
      exact ih3 _ _ _ hf
    · replace hf := ra_f hf c6
      refine rg_aload_n (pc := 53) C 0 rfl rfl dX6_lines_53 ?_
      refine rg_get (pc := 54) C 134 6 21 kd_134 (by decide) rfl inlX6 (by decide) wd_617 rfl dX6_lines_54 ?_
      refine rg_iload_n (pc := 57) C 3 rfl rfl dX6_lines_57 ?_
      refine rg_aload_n (pc := 58) C 0 rfl rfl dX6_lines_58 ?_
      refine rg_get (pc := 59) C 134 6 21 kd_134 (by decide) rfl inlX6 (by decide) wd_617 rfl dX6_lines_59 ?_
      refine rg_iload_n (pc := 62) C 3 rfl rfl dX6_lines_62 ?_
      refine rg_iconst (pc := 63) (v := 1) C dX6_lines_63 (by decide) ?_
      refine rg_isub (pc := 64) C dX6_lines_64 ?_
      refine rg_iald (pc := 65) (j := (ra_ix (v3 - 1))) C 146 kd_146 rfl g2 dX6_lines_65 ?_
      obtain ⟨g7, hf⟩ := ra_gd hf
      refine rg_iast (pc := 66) (j := (ra_ix v3)) C 146 kd_146 rfl g7 dX6_lines_66 ?_
      refine rg_iinc (pc := 67) (v := (v3 + (-1))) (lv' := [(0, .ref ((zG Z).1 134)), (1, .ref ((zG Z).1 b1)), (2, .int v2), (3, .int (v3 + (-1)))]) C 3 rfl [1, 2, 3, 0] (ra_ii (by decide)) rfl (by decide) dX6_lines_67 ?_
      refine rg_goto (pc := 70) (tgt := 32) C dX6_lines_70 (by decide) ?_
      exact ih2 _ _ _ hf
set_option maxHeartbeats 4000000 in
theorem tX6_lines_3 {Z : ra_Z} {r : Int32} {w1 : ra_W} (C : ra_C Z cX6_lines 4 RX6 1 25) (hQ : ra_QV Z r w1) (hr : (zmt Z).sig.returnType = none) (k : Nat) (b1 : Nat) (h1 : ra_kd b1 = (10, 41)) (n : Nat) (ih4 : pX6_lines_4 Z r w1 k b1 n) : pX6_lines_3 Z r w1 k b1 (n + 1) := by
  intro v2 v3 w hf
  rw [fX6_lines_3] at hf
  refine rg_aload_n (pc := 73) C 0 rfl rfl dX6_lines_73 ?_
  refine rg_get (pc := 74) C 134 6 21 kd_134 (by decide) rfl inlX6 (by decide) wd_617 rfl dX6_lines_74 ?_
  refine rg_iload_n (pc := 77) C 3 rfl rfl dX6_lines_77 ?_
  refine rg_iload_n (pc := 78) C 2 rfl rfl dX6_lines_78 ?_
  obtain ⟨g1, hf⟩ := ra_gd hf
  refine rg_iast (pc := 79) (j := (ra_ix v3)) C 146 kd_146 rfl g1 dX6_lines_79 ?_
  refine rg_aload_n (pc := 80) C 0 rfl rfl dX6_lines_80 ?_
  refine rg_dup (pc := 81) C rfl dX6_lines_81 ?_
  refine rg_get (pc := 82) C 134 6 22 kd_134 (by decide) rfl inlX6 (by decide) wd_618 rfl dX6_lines_82 ?_
  refine rg_iconst (pc := 85) (v := 1) C dX6_lines_85 (by decide) ?_
  refine rg_iadd (pc := 86) C dX6_lines_86 ?_
  refine rg_put (pc := 87) C 134 6 22 kd_134 (by decide) rfl inlX6 tyX6 tyX6_ok nmX6 (by decide) wd_618 rfl rfl rfl (Nat.le_of_ble_eq_true rfl) rfl dX6_lines_87 ?_
  refine rg_sub [0, 1, 2] rfl ?_
  exact ih4 _ _ _ hf
set_option maxHeartbeats 4000000 in
theorem tX6_lines_4 {Z : ra_Z} {r : Int32} {w1 : ra_W} (C : ra_C Z cX6_lines 4 RX6 1 25) (hQ : ra_QV Z r w1) (hr : (zmt Z).sig.returnType = none) (k : Nat) (b1 : Nat) (h1 : ra_kd b1 = (10, 41)) (n : Nat) (ih1 : pX6_lines_1 Z r w1 k b1 n) : pX6_lines_4 Z r w1 k b1 (n + 1) := by
  intro v2 v3 w hf
  rw [fX6_lines_4] at hf
  refine rg_iinc (pc := 90) (v := (v2 + 1)) (lv' := [(0, .ref ((zG Z).1 134)), (1, .ref ((zG Z).1 b1)), (2, .int (v2 + 1))]) C 2 rfl [1, 2, 0] (ra_ii (by decide)) rfl (by decide) dX6_lines_90 ?_
  refine rg_goto (pc := 93) (tgt := 7) C dX6_lines_93 (by decide) ?_
  exact ih1 _ _ _ hf
theorem tX6_lines {Z : ra_Z} {r : Int32} {w1 : ra_W} (C : ra_C Z cX6_lines 4 RX6 1 25) (hQ : ra_QV Z r w1) (hr : (zmt Z).sig.returnType = none) (k : Nat) (b1 : Nat) (h1 : ra_kd b1 = (10, 41)) : ∀ n : Nat, pX6_lines_0 Z r w1 k b1 n ∧ pX6_lines_1 Z r w1 k b1 n ∧ pX6_lines_2 Z r w1 k b1 n ∧ pX6_lines_3 Z r w1 k b1 n ∧ pX6_lines_4 Z r w1 k b1 n := by
  intro n
  induction n with
  | zero => exact ⟨(fun _ _ _ h => by cases h), (fun _ _ _ h => by cases h), (fun _ _ _ h => by cases h), (fun _ _ _ h => by cases h), (fun _ _ _ h => by cases h)⟩
  | succ n ih =>
    obtain ⟨ih0, ih1, ih2, ih3, ih4⟩ := ih
    exact ⟨tX6_lines_0 C hQ hr k b1 h1 n ih1, tX6_lines_1 C hQ hr k b1 h1 n ih2 ih4, tX6_lines_2 C hQ hr k b1 h1 n ih2 ih3, tX6_lines_3 C hQ hr k b1 h1 n ih4, tX6_lines_4 C hQ hr k b1 h1 n ih1⟩
theorem kX6_lines (l : Launch) (G : ra_G) (hj : ra_inj G) (k : Nat) (b1 : Nat) (h1 : ra_kd b1 = (10, 41))  (w : ra_W) (r : Int32) (w1 : ra_W) (h : FX6_lines k b1  w = some (r, w1)) : ra_MV l G yX6_lines cX6_lines 4 none 1 25 [.ref (G.1 134), .ref (G.1 b1)] w r w1 :=
  ra_entryV (own := RX6) (by decide) rfl (Nat.le_of_ble_eq_true rfl) hj (fun Z hl hG C hQ hr => by subst hl; subst hG; exact (tX6_lines C hQ hr k b1 h1 k).1 _ _ _ h)
theorem ysX6_lines : ra_YV yX6_lines cX6_lines 4 none 1 RX6 := ⟨⟨wd_7, wd_756, by decide, by decide, by decide⟩, wd_755, wp_34⟩
/-- TrunkRadioModel.neededBy -/
def fX6_neededBy (k : Nat) (b1 : Nat) : Nat → Nat → Int32 → Int32 → Int32 → Int32 → Int32 → Int32 → ra_W → Option (Int32 × ra_W)
  | 0, _, _, _, _, _, _, _, _ => none
  | n + 1, L, v2, v3, v4, v5, s0, s1, w => match L with
    | 0 => if ra_in (6 + v2) 41 then fX6_neededBy k b1 n 1 v2 (1 - (w b1 (ra_ix (6 + v2)))) 0 0 0 0 w else none
    | 1 => if (w 136 0) ≤ v5 then (if ra_in (6 + v2) 41 then if v4 = 0 then (fX6_neededBy k b1 n 5 0 0 0 0 (1 <<< ((w b1 (ra_ix (6 + v2))) &&& 31)) 0 w) else (if ra_in (0 + v3) 41 then if 0 ≤ (w b1 (ra_ix (0 + v3))) then (fX6_neededBy k b1 n 5 0 0 0 0 (1 <<< ((w b1 (ra_ix (6 + v2))) &&& 31)) 0 w) else (fX6_neededBy k b1 n 6 0 0 0 0 (1 <<< (v3 &&& 31)) (1 <<< ((w b1 (ra_ix (6 + v2))) &&& 31)) w) else none) else none) else (if v4 = 0 then (if ra_in (5 + v5) 19 then if ra_in (5 + v2) 19 then if (w 136 (ra_ix (5 + v5))) = (w 136 (ra_ix (5 + v2))) then (if ra_in (6 + v5) 41 then if (w b1 (ra_ix (6 + v5))) = v3 then (fX6_neededBy k b1 n 2 v2 v3 0 v5 0 0 w) else (fX6_neededBy k b1 n 3 v2 v3 0 v5 0 0 w) else none) else (fX6_neededBy k b1 n 3 v2 v3 0 v5 0 0 w) else none else none) else (fX6_neededBy k b1 n 2 v2 v3 0 v5 0 0 w))
    | 2 => fX6_neededBy k b1 n 4 v2 v3 0 v5 1 0 w
    | 3 => fX6_neededBy k b1 n 4 v2 v3 0 v5 0 0 w
    | 4 => fX6_neededBy k b1 n 1 v2 v3 s0 (v5 + 1) 0 0 w
    | 5 => fX6_neededBy k b1 n 6 0 0 0 0 0 s0 w
    | _ => some ((s1 ||| s0), w)
theorem fX6_neededBy_0 (k : Nat) (b1 : Nat) (n : Nat) (v2 : Int32) (v3 : Int32) (v4 : Int32) (v5 : Int32) (s0 : Int32) (s1 : Int32) (w : ra_W) : fX6_neededBy k b1 (n + 1) 0 v2 v3 v4 v5 s0 s1 w = (if ra_in (6 + v2) 41 then fX6_neededBy k b1 n 1 v2 (1 - (w b1 (ra_ix (6 + v2)))) 0 0 0 0 w else none) := rfl
theorem fX6_neededBy_1 (k : Nat) (b1 : Nat) (n : Nat) (v2 : Int32) (v3 : Int32) (v4 : Int32) (v5 : Int32) (s0 : Int32) (s1 : Int32) (w : ra_W) : fX6_neededBy k b1 (n + 1) 1 v2 v3 v4 v5 s0 s1 w = (if (w 136 0) ≤ v5 then (if ra_in (6 + v2) 41 then if v4 = 0 then (fX6_neededBy k b1 n 5 0 0 0 0 (1 <<< ((w b1 (ra_ix (6 + v2))) &&& 31)) 0 w) else (if ra_in (0 + v3) 41 then if 0 ≤ (w b1 (ra_ix (0 + v3))) then (fX6_neededBy k b1 n 5 0 0 0 0 (1 <<< ((w b1 (ra_ix (6 + v2))) &&& 31)) 0 w) else (fX6_neededBy k b1 n 6 0 0 0 0 (1 <<< (v3 &&& 31)) (1 <<< ((w b1 (ra_ix (6 + v2))) &&& 31)) w) else none) else none) else (if v4 = 0 then (if ra_in (5 + v5) 19 then if ra_in (5 + v2) 19 then if (w 136 (ra_ix (5 + v5))) = (w 136 (ra_ix (5 + v2))) then (if ra_in (6 + v5) 41 then if (w b1 (ra_ix (6 + v5))) = v3 then (fX6_neededBy k b1 n 2 v2 v3 0 v5 0 0 w) else (fX6_neededBy k b1 n 3 v2 v3 0 v5 0 0 w) else none) else (fX6_neededBy k b1 n 3 v2 v3 0 v5 0 0 w) else none else none) else (fX6_neededBy k b1 n 2 v2 v3 0 v5 0 0 w))) := rfl
theorem fX6_neededBy_2 (k : Nat) (b1 : Nat) (n : Nat) (v2 : Int32) (v3 : Int32) (v4 : Int32) (v5 : Int32) (s0 : Int32) (s1 : Int32) (w : ra_W) : fX6_neededBy k b1 (n + 1) 2 v2 v3 v4 v5 s0 s1 w = (fX6_neededBy k b1 n 4 v2 v3 0 v5 1 0 w) := rfl
theorem fX6_neededBy_3 (k : Nat) (b1 : Nat) (n : Nat) (v2 : Int32) (v3 : Int32) (v4 : Int32) (v5 : Int32) (s0 : Int32) (s1 : Int32) (w : ra_W) : fX6_neededBy k b1 (n + 1) 3 v2 v3 v4 v5 s0 s1 w = (fX6_neededBy k b1 n 4 v2 v3 0 v5 0 0 w) := rfl
theorem fX6_neededBy_4 (k : Nat) (b1 : Nat) (n : Nat) (v2 : Int32) (v3 : Int32) (v4 : Int32) (v5 : Int32) (s0 : Int32) (s1 : Int32) (w : ra_W) : fX6_neededBy k b1 (n + 1) 4 v2 v3 v4 v5 s0 s1 w = (fX6_neededBy k b1 n 1 v2 v3 s0 (v5 + 1) 0 0 w) := rfl
theorem fX6_neededBy_5 (k : Nat) (b1 : Nat) (n : Nat) (v2 : Int32) (v3 : Int32) (v4 : Int32) (v5 : Int32) (s0 : Int32) (s1 : Int32) (w : ra_W) : fX6_neededBy k b1 (n + 1) 5 v2 v3 v4 v5 s0 s1 w = (fX6_neededBy k b1 n 6 0 0 0 0 0 s0 w) := rfl
theorem fX6_neededBy_6 (k : Nat) (b1 : Nat) (n : Nat) (v2 : Int32) (v3 : Int32) (v4 : Int32) (v5 : Int32) (s0 : Int32) (s1 : Int32) (w : ra_W) : fX6_neededBy k b1 (n + 1) 6 v2 v3 v4 v5 s0 s1 w = (some ((s1 ||| s0), w)) := rfl
def FX6_neededBy (k : Nat) (b1 : Nat) (v2 : Int32) (w : ra_W) : Option (Int32 × ra_W) := fX6_neededBy k b1 k 0 v2 0 0 0 0 0 w
def pX6_neededBy_0 (Z : ra_Z) (r : Int32) (w1 : ra_W) (k : Nat) (b1 : Nat) (n : Nat) : Prop := ∀ (v2 : Int32) (v3 : Int32) (v4 : Int32) (v5 : Int32) (s0 : Int32) (s1 : Int32) (w : ra_W), fX6_neededBy k b1 n 0 v2 v3 v4 v5 s0 s1 w = some (r, w1) → ra_J Z 6 0 [(0, .ref ((zG Z).1 134)), (1, .ref ((zG Z).1 b1)), (2, .int v2)] [] w
def pX6_neededBy_1 (Z : ra_Z) (r : Int32) (w1 : ra_W) (k : Nat) (b1 : Nat) (n : Nat) : Prop := ∀ (v2 : Int32) (v3 : Int32) (v4 : Int32) (v5 : Int32) (s0 : Int32) (s1 : Int32) (w : ra_W), fX6_neededBy k b1 n 1 v2 v3 v4 v5 s0 s1 w = some (r, w1) → ra_J Z 6 15 [(0, .ref ((zG Z).1 134)), (1, .ref ((zG Z).1 b1)), (2, .int v2), (3, .int v3), (4, .int v4), (5, .int v5)] [] w
def pX6_neededBy_2 (Z : ra_Z) (r : Int32) (w1 : ra_W) (k : Nat) (b1 : Nat) (n : Nat) : Prop := ∀ (v2 : Int32) (v3 : Int32) (v4 : Int32) (v5 : Int32) (s0 : Int32) (s1 : Int32) (w : ra_W), fX6_neededBy k b1 n 2 v2 v3 v4 v5 s0 s1 w = some (r, w1) → ra_J Z 6 62 [(0, .ref ((zG Z).1 134)), (1, .ref ((zG Z).1 b1)), (2, .int v2), (3, .int v3), (5, .int v5)] [] w
def pX6_neededBy_3 (Z : ra_Z) (r : Int32) (w1 : ra_W) (k : Nat) (b1 : Nat) (n : Nat) : Prop := ∀ (v2 : Int32) (v3 : Int32) (v4 : Int32) (v5 : Int32) (s0 : Int32) (s1 : Int32) (w : ra_W), fX6_neededBy k b1 n 3 v2 v3 v4 v5 s0 s1 w = some (r, w1) → ra_J Z 6 66 [(0, .ref ((zG Z).1 134)), (1, .ref ((zG Z).1 b1)), (2, .int v2), (3, .int v3), (5, .int v5)] [] w
def pX6_neededBy_4 (Z : ra_Z) (r : Int32) (w1 : ra_W) (k : Nat) (b1 : Nat) (n : Nat) : Prop := ∀ (v2 : Int32) (v3 : Int32) (v4 : Int32) (v5 : Int32) (s0 : Int32) (s1 : Int32) (w : ra_W), fX6_neededBy k b1 n 4 v2 v3 v4 v5 s0 s1 w = some (r, w1) → ra_J Z 6 67 [(0, .ref ((zG Z).1 134)), (1, .ref ((zG Z).1 b1)), (2, .int v2), (3, .int v3), (5, .int v5)] [.int s0] w
def pX6_neededBy_5 (Z : ra_Z) (r : Int32) (w1 : ra_W) (k : Nat) (b1 : Nat) (n : Nat) : Prop := ∀ (v2 : Int32) (v3 : Int32) (v4 : Int32) (v5 : Int32) (s0 : Int32) (s1 : Int32) (w : ra_W), fX6_neededBy k b1 n 5 v2 v3 v4 v5 s0 s1 w = some (r, w1) → ra_J Z 6 102 [(0, .ref ((zG Z).1 134)), (1, .ref ((zG Z).1 b1))] [.int s0] w
def pX6_neededBy_6 (Z : ra_Z) (r : Int32) (w1 : ra_W) (k : Nat) (b1 : Nat) (n : Nat) : Prop := ∀ (v2 : Int32) (v3 : Int32) (v4 : Int32) (v5 : Int32) (s0 : Int32) (s1 : Int32) (w : ra_W), fX6_neededBy k b1 n 6 v2 v3 v4 v5 s0 s1 w = some (r, w1) → ra_J Z 6 103 [(0, .ref ((zG Z).1 134)), (1, .ref ((zG Z).1 b1))] [.int s0, .int s1] w
set_option maxHeartbeats 4000000 in
theorem tX6_neededBy_0 {Z : ra_Z} {r : Int32} {w1 : ra_W} (C : ra_C Z cX6_neededBy 6 RX6 0 0) (hQ : ra_QI Z r w1) (hr : (zmt Z).sig.returnType = (some .int)) (k : Nat) (b1 : Nat) (h1 : ra_kd b1 = (10, 41)) (n : Nat) (ih1 : pX6_neededBy_1 Z r w1 k b1 n) : pX6_neededBy_0 Z r w1 k b1 (n + 1) := by
  intro v2 v3 v4 v5 s0 s1 w hf
  rw [fX6_neededBy_0] at hf
  refine rg_iconst (pc := 0) (v := 1) C dX6_neededBy_0 (by decide) ?_
  refine rg_aload_n (pc := 1) C 1 rfl rfl dX6_neededBy_1 ?_
  refine rg_bipush (pc := 2) (v := 6) C dX6_neededBy_2 (by decide) ?_
  refine rg_iload_n (pc := 4) C 2 rfl rfl dX6_neededBy_4 ?_
  refine rg_iadd (pc := 5) C dX6_neededBy_5 ?_
  obtain ⟨g1, hf⟩ := ra_gd hf
  refine rg_iald (pc := 6) (j := (ra_ix (6 + v2))) C b1 h1 rfl g1 dX6_neededBy_6 ?_
  refine rg_isub (pc := 7) C dX6_neededBy_7 ?_
  refine rg_istore_n (pc := 8) (lv' := [(0, .ref ((zG Z).1 134)), (1, .ref ((zG Z).1 b1)), (2, .int v2), (3, .int (1 - (w b1 (ra_ix (6 + v2)))))]) C [1, 2, 3, 0] rfl rfl (by decide) dX6_neededBy_8 ?_
  refine rg_iconst (pc := 9) (v := 0) C dX6_neededBy_9 (by decide) ?_
  refine rg_istore (pc := 10) (lv' := [(0, .ref ((zG Z).1 134)), (1, .ref ((zG Z).1 b1)), (2, .int v2), (3, .int (1 - (w b1 (ra_ix (6 + v2))))), (4, .int 0)]) C [1, 2, 3, 4, 0] rfl (by decide) dX6_neededBy_10 ?_
  refine rg_iconst (pc := 12) (v := 0) C dX6_neededBy_12 (by decide) ?_
  refine rg_istore (pc := 13) (lv' := [(0, .ref ((zG Z).1 134)), (1, .ref ((zG Z).1 b1)), (2, .int v2), (3, .int (1 - (w b1 (ra_ix (6 + v2))))), (4, .int 0), (5, .int 0)]) C [1, 2, 3, 4, 5, 0] rfl (by decide) dX6_neededBy_13 ?_
  exact ih1 _ _ _ _ _ _ _ hf
set_option maxHeartbeats 4000000 in
theorem tX6_neededBy_1 {Z : ra_Z} {r : Int32} {w1 : ra_W} (C : ra_C Z cX6_neededBy 6 RX6 0 0) (hQ : ra_QI Z r w1) (hr : (zmt Z).sig.returnType = (some .int)) (k : Nat) (b1 : Nat) (h1 : ra_kd b1 = (10, 41)) (n : Nat) (ih2 : pX6_neededBy_2 Z r w1 k b1 n) (ih3 : pX6_neededBy_3 Z r w1 k b1 n) (ih5 : pX6_neededBy_5 Z r w1 k b1 n) (ih6 : pX6_neededBy_6 Z r w1 k b1 n) : pX6_neededBy_1 Z r w1 k b1 (n + 1) := by
  intro v2 v3 v4 v5 s0 s1 w hf
  rw [fX6_neededBy_1] at hf
  refine rg_iload (pc := 15) C 5 rfl dX6_neededBy_15 ?_
  refine rg_aload_n (pc := 17) C 0 rfl rfl dX6_neededBy_17 ?_
  refine rg_get (pc := 18) C 134 6 9 kd_134 (by decide) rfl inlX6 (by decide) wd_605 rfl dX6_neededBy_18 ?_
  refine rg_iconst (pc := 21) (v := 0) C dX6_neededBy_21 (by decide) ?_
  refine rg_iald (pc := 22) (j := 0) C 136 kd_136 (by decide) (by decide) dX6_neededBy_22 ?_
  refine rg_icmp_ge (pc := 23) (tgt := 75) C dX6_neededBy_23 (by decide) (fun c1 => ?_) (fun c1 => ?_)
  · replace hf := ra_t hf c1
    refine rg_iconst (pc := 75) (v := 1) C dX6_neededBy_75 (by decide) ?_
    refine rg_aload_n (pc := 76) C 1 rfl rfl dX6_neededBy_76 ?_
    refine rg_bipush (pc := 77) (v := 6) C dX6_neededBy_77 (by decide) ?_
    refine rg_iload_n (pc := 79) C 2 rfl rfl dX6_neededBy_79 ?_
    refine rg_iadd (pc := 80) C dX6_neededBy_80 ?_
    obtain ⟨g2, hf⟩ := ra_gd hf
    refine rg_iald (pc := 81) (j := (ra_ix (6 + v2))) C b1 h1 rfl g2 dX6_neededBy_81 ?_
    refine rg_ishl (pc := 82) C dX6_neededBy_82 ?_
    refine rg_iload (pc := 83) C 4 rfl dX6_neededBy_83 ?_
    refine rg_if_eq (pc := 85) (tgt := 102) C dX6_neededBy_85 (by decide) (fun c3 => ?_) (fun c3 => ?_)
    · replace hf := ra_t hf c3
      refine rg_sub [0, 1] rfl ?_
      exact ih5 _ _ _ _ _ _ _ hf
    · replace hf := ra_f hf c3
      refine rg_aload_n (pc := 88) C 1 rfl rfl dX6_neededBy_88 ?_
      refine rg_iconst (pc := 89) (v := 0) C dX6_neededBy_89 (by decide) ?_
      refine rg_iload_n (pc := 90) C 3 rfl rfl dX6_neededBy_90 ?_
      refine rg_iadd (pc := 91) C dX6_neededBy_91 ?_
      obtain ⟨g4, hf⟩ := ra_gd hf
      refine rg_iald (pc := 92) (j := (ra_ix (0 + v3))) C b1 h1 rfl g4 dX6_neededBy_92 ?_
      refine rg_if_ge (pc := 93) (tgt := 102) C dX6_neededBy_93 (by decide) (fun c5 => ?_) (fun c5 => ?_)
      · replace hf := ra_t hf c5
        refine rg_sub [0, 1] rfl ?_
        exact ih5 _ _ _ _ _ _ _ hf
      · replace hf := ra_f hf c5
        refine rg_iconst (pc := 96) (v := 1) C dX6_neededBy_96 (by decide) ?_
        refine rg_iload_n (pc := 97) C 3 rfl rfl dX6_neededBy_97 ?_
        refine rg_ishl (pc := 98) C dX6_neededBy_98 ?_
        refine rg_goto (pc := 99) (tgt := 103) C dX6_neededBy_99 (by decide) ?_
        refine rg_sub [0, 1] rfl ?_
        exact ih6 _ _ _ _ _ _ _ hf
  · replace hf := ra_f hf c1
    refine rg_iload (pc := 26) C 4 rfl dX6_neededBy_26 ?_
    refine rg_if_ne (pc := 28) (tgt := 62) C dX6_neededBy_28 (by decide) (fun c6 => ?_) (fun c6 => ?_)
    · replace hf := ra_f hf c6
      refine rg_sub [0, 1, 2, 3, 5] rfl ?_
      exact ih2 _ _ _ _ _ _ _ hf
    · replace hf := ra_t hf c6
      refine rg_aload_n (pc := 31) C 0 rfl rfl dX6_neededBy_31 ?_
      refine rg_get (pc := 32) C 134 6 9 kd_134 (by decide) rfl inlX6 (by decide) wd_605 rfl dX6_neededBy_32 ?_
      refine rg_iconst (pc := 35) (v := 5) C dX6_neededBy_35 (by decide) ?_
      refine rg_iload (pc := 36) C 5 rfl dX6_neededBy_36 ?_
      refine rg_iadd (pc := 38) C dX6_neededBy_38 ?_
      obtain ⟨g7, hf⟩ := ra_gd hf
      refine rg_iald (pc := 39) (j := (ra_ix (5 + v5))) C 136 kd_136 rfl g7 dX6_neededBy_39 ?_
      refine rg_aload_n (pc := 40) C 0 rfl rfl dX6_neededBy_40 ?_
      refine rg_get (pc := 41) C 134 6 9 kd_134 (by decide) rfl inlX6 (by decide) wd_605 rfl dX6_neededBy_41 ?_
      refine rg_iconst (pc := 44) (v := 5) C dX6_neededBy_44 (by decide) ?_
      refine rg_iload_n (pc := 45) C 2 rfl rfl dX6_neededBy_45 ?_
      refine rg_iadd (pc := 46) C dX6_neededBy_46 ?_
      obtain ⟨g8, hf⟩ := ra_gd hf
      refine rg_iald (pc := 47) (j := (ra_ix (5 + v2))) C 136 kd_136 rfl g8 dX6_neededBy_47 ?_
      refine rg_icmp_ne (pc := 48) (tgt := 66) C dX6_neededBy_48 (by decide) (fun c9 => ?_) (fun c9 => ?_)
      · replace hf := ra_f hf c9
        refine rg_sub [0, 1, 2, 3, 5] rfl ?_
        exact ih3 _ _ _ _ _ _ _ hf
      · replace hf := ra_t hf c9
        refine rg_aload_n (pc := 51) C 1 rfl rfl dX6_neededBy_51 ?_
        refine rg_bipush (pc := 52) (v := 6) C dX6_neededBy_52 (by decide) ?_
        refine rg_iload (pc := 54) C 5 rfl dX6_neededBy_54 ?_
        refine rg_iadd (pc := 56) C dX6_neededBy_56 ?_
        obtain ⟨g10, hf⟩ := ra_gd hf
        refine rg_iald (pc := 57) (j := (ra_ix (6 + v5))) C b1 h1 rfl g10 dX6_neededBy_57 ?_
        refine rg_iload_n (pc := 58) C 3 rfl rfl dX6_neededBy_58 ?_
        refine rg_icmp_ne (pc := 59) (tgt := 66) C dX6_neededBy_59 (by decide) (fun c11 => ?_) (fun c11 => ?_)
        · replace hf := ra_f hf c11
          refine rg_sub [0, 1, 2, 3, 5] rfl ?_
          exact ih3 _ _ _ _ _ _ _ hf
        · replace hf := ra_t hf c11
          refine rg_sub [0, 1, 2, 3, 5] rfl ?_
          exact ih2 _ _ _ _ _ _ _ hf
set_option maxHeartbeats 4000000 in
theorem tX6_neededBy_2 {Z : ra_Z} {r : Int32} {w1 : ra_W} (C : ra_C Z cX6_neededBy 6 RX6 0 0) (hQ : ra_QI Z r w1) (hr : (zmt Z).sig.returnType = (some .int)) (k : Nat) (b1 : Nat) (h1 : ra_kd b1 = (10, 41)) (n : Nat) (ih4 : pX6_neededBy_4 Z r w1 k b1 n) : pX6_neededBy_2 Z r w1 k b1 (n + 1) := by
  intro v2 v3 v4 v5 s0 s1 w hf
  rw [fX6_neededBy_2] at hf
  refine rg_iconst (pc := 62) (v := 1) C dX6_neededBy_62 (by decide) ?_
  refine rg_goto (pc := 63) (tgt := 67) C dX6_neededBy_63 (by decide) ?_
  exact ih4 _ _ _ _ _ _ _ hf
set_option maxHeartbeats 4000000 in
theorem tX6_neededBy_3 {Z : ra_Z} {r : Int32} {w1 : ra_W} (C : ra_C Z cX6_neededBy 6 RX6 0 0) (hQ : ra_QI Z r w1) (hr : (zmt Z).sig.returnType = (some .int)) (k : Nat) (b1 : Nat) (h1 : ra_kd b1 = (10, 41)) (n : Nat) (ih4 : pX6_neededBy_4 Z r w1 k b1 n) : pX6_neededBy_3 Z r w1 k b1 (n + 1) := by
  intro v2 v3 v4 v5 s0 s1 w hf
  rw [fX6_neededBy_3] at hf
  refine rg_iconst (pc := 66) (v := 0) C dX6_neededBy_66 (by decide) ?_
  exact ih4 _ _ _ _ _ _ _ hf
set_option maxHeartbeats 4000000 in
theorem tX6_neededBy_4 {Z : ra_Z} {r : Int32} {w1 : ra_W} (C : ra_C Z cX6_neededBy 6 RX6 0 0) (hQ : ra_QI Z r w1) (hr : (zmt Z).sig.returnType = (some .int)) (k : Nat) (b1 : Nat) (h1 : ra_kd b1 = (10, 41)) (n : Nat) (ih1 : pX6_neededBy_1 Z r w1 k b1 n) : pX6_neededBy_4 Z r w1 k b1 (n + 1) := by
  intro v2 v3 v4 v5 s0 s1 w hf
  rw [fX6_neededBy_4] at hf
  refine rg_istore (pc := 67) (lv' := [(0, .ref ((zG Z).1 134)), (1, .ref ((zG Z).1 b1)), (2, .int v2), (3, .int v3), (4, .int s0), (5, .int v5)]) C [1, 2, 3, 4, 0, 5] rfl (by decide) dX6_neededBy_67 ?_
  refine rg_iinc (pc := 69) (v := (v5 + 1)) (lv' := [(0, .ref ((zG Z).1 134)), (1, .ref ((zG Z).1 b1)), (2, .int v2), (3, .int v3), (4, .int s0), (5, .int (v5 + 1))]) C 5 rfl [1, 2, 3, 4, 5, 0] (ra_ii (by decide)) rfl (by decide) dX6_neededBy_69 ?_
  refine rg_goto (pc := 72) (tgt := 15) C dX6_neededBy_72 (by decide) ?_
  exact ih1 _ _ _ _ _ _ _ hf
set_option maxHeartbeats 4000000 in
theorem tX6_neededBy_5 {Z : ra_Z} {r : Int32} {w1 : ra_W} (C : ra_C Z cX6_neededBy 6 RX6 0 0) (hQ : ra_QI Z r w1) (hr : (zmt Z).sig.returnType = (some .int)) (k : Nat) (b1 : Nat) (h1 : ra_kd b1 = (10, 41)) (n : Nat) (ih6 : pX6_neededBy_6 Z r w1 k b1 n) : pX6_neededBy_5 Z r w1 k b1 (n + 1) := by
  intro v2 v3 v4 v5 s0 s1 w hf
  rw [fX6_neededBy_5] at hf
  refine rg_iconst (pc := 102) (v := 0) C dX6_neededBy_102 (by decide) ?_
  exact ih6 _ _ _ _ _ _ _ hf
set_option maxHeartbeats 4000000 in
theorem tX6_neededBy_6 {Z : ra_Z} {r : Int32} {w1 : ra_W} (C : ra_C Z cX6_neededBy 6 RX6 0 0) (hQ : ra_QI Z r w1) (hr : (zmt Z).sig.returnType = (some .int)) (k : Nat) (b1 : Nat) (h1 : ra_kd b1 = (10, 41)) (n : Nat) : pX6_neededBy_6 Z r w1 k b1 (n + 1) := by
  intro v2 v3 v4 v5 s0 s1 w hf
  rw [fX6_neededBy_6] at hf
  refine rg_ior (pc := 103) C dX6_neededBy_103 ?_
  exact rg_iret (pc := 104) C hQ hr hf dX6_neededBy_104
theorem tX6_neededBy {Z : ra_Z} {r : Int32} {w1 : ra_W} (C : ra_C Z cX6_neededBy 6 RX6 0 0) (hQ : ra_QI Z r w1) (hr : (zmt Z).sig.returnType = (some .int)) (k : Nat) (b1 : Nat) (h1 : ra_kd b1 = (10, 41)) : ∀ n : Nat, pX6_neededBy_0 Z r w1 k b1 n ∧ pX6_neededBy_1 Z r w1 k b1 n ∧ pX6_neededBy_2 Z r w1 k b1 n ∧ pX6_neededBy_3 Z r w1 k b1 n ∧ pX6_neededBy_4 Z r w1 k b1 n ∧ pX6_neededBy_5 Z r w1 k b1 n ∧ pX6_neededBy_6 Z r w1 k b1 n := by
  intro n
  induction n with
  | zero => exact ⟨(fun _ _ _ _ _ _ _ h => by cases h), (fun _ _ _ _ _ _ _ h => by cases h), (fun _ _ _ _ _ _ _ h => by cases h), (fun _ _ _ _ _ _ _ h => by cases h), (fun _ _ _ _ _ _ _ h => by cases h), (fun _ _ _ _ _ _ _ h => by cases h), (fun _ _ _ _ _ _ _ h => by cases h)⟩
  | succ n ih =>
    obtain ⟨ih0, ih1, ih2, ih3, ih4, ih5, ih6⟩ := ih
    exact ⟨tX6_neededBy_0 C hQ hr k b1 h1 n ih1, tX6_neededBy_1 C hQ hr k b1 h1 n ih2 ih3 ih5 ih6, tX6_neededBy_2 C hQ hr k b1 h1 n ih4, tX6_neededBy_3 C hQ hr k b1 h1 n ih4, tX6_neededBy_4 C hQ hr k b1 h1 n ih1, tX6_neededBy_5 C hQ hr k b1 h1 n ih6, tX6_neededBy_6 C hQ hr k b1 h1 n⟩
theorem kX6_neededBy (l : Launch) (G : ra_G) (hj : ra_inj G) (k : Nat) (b1 : Nat) (h1 : ra_kd b1 = (10, 41)) (v2 : Int32) (w : ra_W) (r : Int32) (w1 : ra_W) (h : FX6_neededBy k b1 v2 w = some (r, w1)) : ra_MI l G yX6_neededBy cX6_neededBy 6 (some .int) 0 0 [.ref (G.1 134), .ref (G.1 b1), .int v2] w r w1 :=
  ra_entryI (own := RX6) (by decide) rfl (Nat.le_of_ble_eq_true rfl) hj (fun Z hl hG C hQ hr => by subst hl; subst hG; exact (tX6_neededBy C hQ hr k b1 h1 k).1 _ _ _ _ _ _ _ h)
theorem ysX6_neededBy : ra_YV yX6_neededBy cX6_neededBy 6 (some .int) 2 RX6 := ⟨⟨wd_7, wd_772, by decide, by decide, by decide⟩, wd_771, wp_38⟩
/-- TrunkRadioModel.leastAt -/
def fX6_leastAt (k : Nat) (b1 : Nat) : Nat → Nat → Int32 → Int32 → Int32 → Int32 → ra_W → Option (Int32 × ra_W)
  | 0, _, _, _, _, _, _ => none
  | n + 1, L, v2, v3, v4, s0, w => match L with
    | 0 => fX6_leastAt k b1 n 1 v2 (-9) 0 0 w
    | 1 => if (w 136 0) ≤ v4 then (some (v3, w)) else (if ra_in (13 + v4) 41 then if (w b1 (ra_ix (13 + v4))) = 4 then (if ra_in (27 + v4) 41 then if (w b1 (ra_ix (27 + v4))) = 0 then (if ra_in (34 + v4) 41 then ra_bind (FX6_has k (w b1 (ra_ix (34 + v4))) v2 w) (fun r7 w8 => if r7 = 0 then (fX6_leastAt k b1 n 2 v2 v3 v4 0 w8) else (fX6_leastAt k b1 n 3 v2 v3 v4 1 w8)) else none) else (fX6_leastAt k b1 n 2 v2 v3 v4 0 w) else none) else (fX6_leastAt k b1 n 2 v2 v3 v4 0 w) else none)
    | 2 => fX6_leastAt k b1 n 3 v2 v3 v4 0 w
    | 3 => if s0 = 0 then (fX6_leastAt k b1 n 5 v2 v3 v4 0 w) else (if v3 = (-9) then (fX6_leastAt k b1 n 4 v2 0 v4 0 w) else (if ra_in (12 + v4) 19 then if ra_in (12 + v3) 19 then if (w 136 (ra_ix (12 + v3))) < (w 136 (ra_ix (12 + v4))) then (fX6_leastAt k b1 n 5 v2 v3 v4 0 w) else (fX6_leastAt k b1 n 4 v2 0 v4 0 w) else none else none))
    | 4 => fX6_leastAt k b1 n 6 v2 0 v4 v4 w
    | 5 => fX6_leastAt k b1 n 6 v2 0 v4 v3 w
    | _ => fX6_leastAt k b1 n 1 v2 s0 (v4 + 1) 0 w
theorem fX6_leastAt_0 (k : Nat) (b1 : Nat) (n : Nat) (v2 : Int32) (v3 : Int32) (v4 : Int32) (s0 : Int32) (w : ra_W) : fX6_leastAt k b1 (n + 1) 0 v2 v3 v4 s0 w = (fX6_leastAt k b1 n 1 v2 (-9) 0 0 w) := rfl
theorem fX6_leastAt_1 (k : Nat) (b1 : Nat) (n : Nat) (v2 : Int32) (v3 : Int32) (v4 : Int32) (s0 : Int32) (w : ra_W) : fX6_leastAt k b1 (n + 1) 1 v2 v3 v4 s0 w = (if (w 136 0) ≤ v4 then (some (v3, w)) else (if ra_in (13 + v4) 41 then if (w b1 (ra_ix (13 + v4))) = 4 then (if ra_in (27 + v4) 41 then if (w b1 (ra_ix (27 + v4))) = 0 then (if ra_in (34 + v4) 41 then ra_bind (FX6_has k (w b1 (ra_ix (34 + v4))) v2 w) (fun r7 w8 => if r7 = 0 then (fX6_leastAt k b1 n 2 v2 v3 v4 0 w8) else (fX6_leastAt k b1 n 3 v2 v3 v4 1 w8)) else none) else (fX6_leastAt k b1 n 2 v2 v3 v4 0 w) else none) else (fX6_leastAt k b1 n 2 v2 v3 v4 0 w) else none)) := rfl
theorem fX6_leastAt_2 (k : Nat) (b1 : Nat) (n : Nat) (v2 : Int32) (v3 : Int32) (v4 : Int32) (s0 : Int32) (w : ra_W) : fX6_leastAt k b1 (n + 1) 2 v2 v3 v4 s0 w = (fX6_leastAt k b1 n 3 v2 v3 v4 0 w) := rfl
theorem fX6_leastAt_3 (k : Nat) (b1 : Nat) (n : Nat) (v2 : Int32) (v3 : Int32) (v4 : Int32) (s0 : Int32) (w : ra_W) : fX6_leastAt k b1 (n + 1) 3 v2 v3 v4 s0 w = (if s0 = 0 then (fX6_leastAt k b1 n 5 v2 v3 v4 0 w) else (if v3 = (-9) then (fX6_leastAt k b1 n 4 v2 0 v4 0 w) else (if ra_in (12 + v4) 19 then if ra_in (12 + v3) 19 then if (w 136 (ra_ix (12 + v3))) < (w 136 (ra_ix (12 + v4))) then (fX6_leastAt k b1 n 5 v2 v3 v4 0 w) else (fX6_leastAt k b1 n 4 v2 0 v4 0 w) else none else none))) := rfl
theorem fX6_leastAt_4 (k : Nat) (b1 : Nat) (n : Nat) (v2 : Int32) (v3 : Int32) (v4 : Int32) (s0 : Int32) (w : ra_W) : fX6_leastAt k b1 (n + 1) 4 v2 v3 v4 s0 w = (fX6_leastAt k b1 n 6 v2 0 v4 v4 w) := rfl
theorem fX6_leastAt_5 (k : Nat) (b1 : Nat) (n : Nat) (v2 : Int32) (v3 : Int32) (v4 : Int32) (s0 : Int32) (w : ra_W) : fX6_leastAt k b1 (n + 1) 5 v2 v3 v4 s0 w = (fX6_leastAt k b1 n 6 v2 0 v4 v3 w) := rfl
theorem fX6_leastAt_6 (k : Nat) (b1 : Nat) (n : Nat) (v2 : Int32) (v3 : Int32) (v4 : Int32) (s0 : Int32) (w : ra_W) : fX6_leastAt k b1 (n + 1) 6 v2 v3 v4 s0 w = (fX6_leastAt k b1 n 1 v2 s0 (v4 + 1) 0 w) := rfl
def FX6_leastAt (k : Nat) (b1 : Nat) (v2 : Int32) (w : ra_W) : Option (Int32 × ra_W) := fX6_leastAt k b1 k 0 v2 0 0 0 w
def pX6_leastAt_0 (Z : ra_Z) (r : Int32) (w1 : ra_W) (k : Nat) (b1 : Nat) (n : Nat) : Prop := ∀ (v2 : Int32) (v3 : Int32) (v4 : Int32) (s0 : Int32) (w : ra_W), fX6_leastAt k b1 n 0 v2 v3 v4 s0 w = some (r, w1) → ra_J Z 6 0 [(0, .ref ((zG Z).1 134)), (1, .ref ((zG Z).1 b1)), (2, .int v2)] [] w
def pX6_leastAt_1 (Z : ra_Z) (r : Int32) (w1 : ra_W) (k : Nat) (b1 : Nat) (n : Nat) : Prop := ∀ (v2 : Int32) (v3 : Int32) (v4 : Int32) (s0 : Int32) (w : ra_W), fX6_leastAt k b1 n 1 v2 v3 v4 s0 w = some (r, w1) → ra_J Z 6 6 [(0, .ref ((zG Z).1 134)), (1, .ref ((zG Z).1 b1)), (2, .int v2), (3, .int v3), (4, .int v4)] [] w
def pX6_leastAt_2 (Z : ra_Z) (r : Int32) (w1 : ra_W) (k : Nat) (b1 : Nat) (n : Nat) : Prop := ∀ (v2 : Int32) (v3 : Int32) (v4 : Int32) (s0 : Int32) (w : ra_W), fX6_leastAt k b1 n 2 v2 v3 v4 s0 w = some (r, w1) → ra_J Z 6 56 [(0, .ref ((zG Z).1 134)), (1, .ref ((zG Z).1 b1)), (2, .int v2), (3, .int v3), (4, .int v4)] [] w
def pX6_leastAt_3 (Z : ra_Z) (r : Int32) (w1 : ra_W) (k : Nat) (b1 : Nat) (n : Nat) : Prop := ∀ (v2 : Int32) (v3 : Int32) (v4 : Int32) (s0 : Int32) (w : ra_W), fX6_leastAt k b1 n 3 v2 v3 v4 s0 w = some (r, w1) → ra_J Z 6 57 [(0, .ref ((zG Z).1 134)), (1, .ref ((zG Z).1 b1)), (2, .int v2), (3, .int v3), (4, .int v4)] [.int s0] w
def pX6_leastAt_4 (Z : ra_Z) (r : Int32) (w1 : ra_W) (k : Nat) (b1 : Nat) (n : Nat) : Prop := ∀ (v2 : Int32) (v3 : Int32) (v4 : Int32) (s0 : Int32) (w : ra_W), fX6_leastAt k b1 n 4 v2 v3 v4 s0 w = some (r, w1) → ra_J Z 6 92 [(0, .ref ((zG Z).1 134)), (1, .ref ((zG Z).1 b1)), (2, .int v2), (4, .int v4)] [] w
def pX6_leastAt_5 (Z : ra_Z) (r : Int32) (w1 : ra_W) (k : Nat) (b1 : Nat) (n : Nat) : Prop := ∀ (v2 : Int32) (v3 : Int32) (v4 : Int32) (s0 : Int32) (w : ra_W), fX6_leastAt k b1 n 5 v2 v3 v4 s0 w = some (r, w1) → ra_J Z 6 97 [(0, .ref ((zG Z).1 134)), (1, .ref ((zG Z).1 b1)), (2, .int v2), (3, .int v3), (4, .int v4)] [] w
def pX6_leastAt_6 (Z : ra_Z) (r : Int32) (w1 : ra_W) (k : Nat) (b1 : Nat) (n : Nat) : Prop := ∀ (v2 : Int32) (v3 : Int32) (v4 : Int32) (s0 : Int32) (w : ra_W), fX6_leastAt k b1 n 6 v2 v3 v4 s0 w = some (r, w1) → ra_J Z 6 98 [(0, .ref ((zG Z).1 134)), (1, .ref ((zG Z).1 b1)), (2, .int v2), (4, .int v4)] [.int s0] w
set_option maxHeartbeats 4000000 in
theorem tX6_leastAt_0 {Z : ra_Z} {r : Int32} {w1 : ra_W} (C : ra_C Z cX6_leastAt 6 RX6 1 21) (hQ : ra_QI Z r w1) (hr : (zmt Z).sig.returnType = (some .int)) (k : Nat) (b1 : Nat) (h1 : ra_kd b1 = (10, 41)) (n : Nat) (ih1 : pX6_leastAt_1 Z r w1 k b1 n) : pX6_leastAt_0 Z r w1 k b1 (n + 1) := by
  intro v2 v3 v4 s0 w hf
  rw [fX6_leastAt_0] at hf
  refine rg_bipush (pc := 0) (v := (-9)) C dX6_leastAt_0 (by decide) ?_
  refine rg_istore_n (pc := 2) (lv' := [(0, .ref ((zG Z).1 134)), (1, .ref ((zG Z).1 b1)), (2, .int v2), (3, .int (-9))]) C [1, 2, 3, 0] rfl rfl (by decide) dX6_leastAt_2 ?_
  refine rg_iconst (pc := 3) (v := 0) C dX6_leastAt_3 (by decide) ?_
  refine rg_istore (pc := 4) (lv' := [(0, .ref ((zG Z).1 134)), (1, .ref ((zG Z).1 b1)), (2, .int v2), (3, .int (-9)), (4, .int 0)]) C [1, 2, 3, 4, 0] rfl (by decide) dX6_leastAt_4 ?_
  exact ih1 _ _ _ _ _ hf
set_option maxHeartbeats 4000000 in
theorem tX6_leastAt_1 {Z : ra_Z} {r : Int32} {w1 : ra_W} (C : ra_C Z cX6_leastAt 6 RX6 1 21) (hQ : ra_QI Z r w1) (hr : (zmt Z).sig.returnType = (some .int)) (k : Nat) (b1 : Nat) (h1 : ra_kd b1 = (10, 41)) (n : Nat) (ih2 : pX6_leastAt_2 Z r w1 k b1 n) (ih3 : pX6_leastAt_3 Z r w1 k b1 n) : pX6_leastAt_1 Z r w1 k b1 (n + 1) := by
  intro v2 v3 v4 s0 w hf
  rw [fX6_leastAt_1] at hf
  refine rg_iload (pc := 6) C 4 rfl dX6_leastAt_6 ?_
  refine rg_aload_n (pc := 8) C 0 rfl rfl dX6_leastAt_8 ?_
  refine rg_get (pc := 9) C 134 6 9 kd_134 (by decide) rfl inlX6 (by decide) wd_605 rfl dX6_leastAt_9 ?_
  refine rg_iconst (pc := 12) (v := 0) C dX6_leastAt_12 (by decide) ?_
  refine rg_iald (pc := 13) (j := 0) C 136 kd_136 (by decide) (by decide) dX6_leastAt_13 ?_
  refine rg_icmp_ge (pc := 14) (tgt := 105) C dX6_leastAt_14 (by decide) (fun c1 => ?_) (fun c1 => ?_)
  · replace hf := ra_t hf c1
    refine rg_iload_n (pc := 105) C 3 rfl rfl dX6_leastAt_105 ?_
    exact rg_iret (pc := 106) C hQ hr hf dX6_leastAt_106
  · replace hf := ra_f hf c1
    refine rg_aload_n (pc := 17) C 1 rfl rfl dX6_leastAt_17 ?_
    refine rg_bipush (pc := 18) (v := 13) C dX6_leastAt_18 (by decide) ?_
    refine rg_iload (pc := 20) C 4 rfl dX6_leastAt_20 ?_
    refine rg_iadd (pc := 22) C dX6_leastAt_22 ?_
    obtain ⟨g2, hf⟩ := ra_gd hf
    refine rg_iald (pc := 23) (j := (ra_ix (13 + v4))) C b1 h1 rfl g2 dX6_leastAt_23 ?_
    refine rg_iconst (pc := 24) (v := 4) C dX6_leastAt_24 (by decide) ?_
    refine rg_icmp_ne (pc := 25) (tgt := 56) C dX6_leastAt_25 (by decide) (fun c3 => ?_) (fun c3 => ?_)
    · replace hf := ra_f hf c3
      exact ih2 _ _ _ _ _ hf
    · replace hf := ra_t hf c3
      refine rg_aload_n (pc := 28) C 1 rfl rfl dX6_leastAt_28 ?_
      refine rg_bipush (pc := 29) (v := 27) C dX6_leastAt_29 (by decide) ?_
      refine rg_iload (pc := 31) C 4 rfl dX6_leastAt_31 ?_
      refine rg_iadd (pc := 33) C dX6_leastAt_33 ?_
      obtain ⟨g4, hf⟩ := ra_gd hf
      refine rg_iald (pc := 34) (j := (ra_ix (27 + v4))) C b1 h1 rfl g4 dX6_leastAt_34 ?_
      refine rg_if_ne (pc := 35) (tgt := 56) C dX6_leastAt_35 (by decide) (fun c5 => ?_) (fun c5 => ?_)
      · replace hf := ra_f hf c5
        exact ih2 _ _ _ _ _ hf
      · replace hf := ra_t hf c5
        refine rg_aload_n (pc := 38) C 1 rfl rfl dX6_leastAt_38 ?_
        refine rg_bipush (pc := 39) (v := 34) C dX6_leastAt_39 (by decide) ?_
        refine rg_iload (pc := 41) C 4 rfl dX6_leastAt_41 ?_
        refine rg_iadd (pc := 43) C dX6_leastAt_43 ?_
        obtain ⟨g6, hf⟩ := ra_gd hf
        refine rg_iald (pc := 44) (j := (ra_ix (34 + v4))) C b1 h1 rfl g6 dX6_leastAt_44 ?_
        refine rg_iload_n (pc := 45) C 2 rfl rfl dX6_leastAt_45 ?_
        obtain ⟨r7, w8, e9, hf⟩ := ra_bd hf
        refine rg_callSI (pc := 46) (As := [.int (w b1 (ra_ix (34 + v4))), .int v2]) (st := []) C (kX6_has (zl Z) (zG Z) C.hj k _ _ _ _ _ e9) ysX6_has rfl wd_777 ⟨Nat.le_of_ble_eq_true rfl, Nat.le_of_ble_eq_true rfl⟩ rfl (Nat.le_of_ble_eq_true rfl) dX6_leastAt_46 ?_
        refine rg_if_eq (pc := 49) (tgt := 56) C dX6_leastAt_49 (by decide) (fun c10 => ?_) (fun c10 => ?_)
        · replace hf := ra_t hf c10
          exact ih2 _ _ _ _ _ hf
        · replace hf := ra_f hf c10
          refine rg_iconst (pc := 52) (v := 1) C dX6_leastAt_52 (by decide) ?_
          refine rg_goto (pc := 53) (tgt := 57) C dX6_leastAt_53 (by decide) ?_
          exact ih3 _ _ _ _ _ hf
set_option maxHeartbeats 4000000 in
theorem tX6_leastAt_2 {Z : ra_Z} {r : Int32} {w1 : ra_W} (C : ra_C Z cX6_leastAt 6 RX6 1 21) (hQ : ra_QI Z r w1) (hr : (zmt Z).sig.returnType = (some .int)) (k : Nat) (b1 : Nat) (h1 : ra_kd b1 = (10, 41)) (n : Nat) (ih3 : pX6_leastAt_3 Z r w1 k b1 n) : pX6_leastAt_2 Z r w1 k b1 (n + 1) := by
  intro v2 v3 v4 s0 w hf
  rw [fX6_leastAt_2] at hf
  refine rg_iconst (pc := 56) (v := 0) C dX6_leastAt_56 (by decide) ?_
  exact ih3 _ _ _ _ _ hf
set_option maxHeartbeats 4000000 in
theorem tX6_leastAt_3 {Z : ra_Z} {r : Int32} {w1 : ra_W} (C : ra_C Z cX6_leastAt 6 RX6 1 21) (hQ : ra_QI Z r w1) (hr : (zmt Z).sig.returnType = (some .int)) (k : Nat) (b1 : Nat) (h1 : ra_kd b1 = (10, 41)) (n : Nat) (ih4 : pX6_leastAt_4 Z r w1 k b1 n) (ih5 : pX6_leastAt_5 Z r w1 k b1 n) : pX6_leastAt_3 Z r w1 k b1 (n + 1) := by
  intro v2 v3 v4 s0 w hf
  rw [fX6_leastAt_3] at hf
  refine rg_istore (pc := 57) (lv' := [(0, .ref ((zG Z).1 134)), (1, .ref ((zG Z).1 b1)), (2, .int v2), (3, .int v3), (4, .int v4), (5, .int s0)]) C [1, 2, 3, 4, 5, 0] rfl (by decide) dX6_leastAt_57 ?_
  refine rg_iload (pc := 59) C 5 rfl dX6_leastAt_59 ?_
  refine rg_if_eq (pc := 61) (tgt := 97) C dX6_leastAt_61 (by decide) (fun c1 => ?_) (fun c1 => ?_)
  · replace hf := ra_t hf c1
    refine rg_sub [0, 1, 2, 3, 4] rfl ?_
    exact ih5 _ _ _ _ _ hf
  · replace hf := ra_f hf c1
    refine rg_iload_n (pc := 64) C 3 rfl rfl dX6_leastAt_64 ?_
    refine rg_bipush (pc := 65) (v := (-9)) C dX6_leastAt_65 (by decide) ?_
    refine rg_icmp_eq (pc := 67) (tgt := 92) C dX6_leastAt_67 (by decide) (fun c2 => ?_) (fun c2 => ?_)
    · replace hf := ra_t hf c2
      refine rg_sub [0, 1, 2, 4] rfl ?_
      exact ih4 _ _ _ _ _ hf
    · replace hf := ra_f hf c2
      refine rg_aload_n (pc := 70) C 0 rfl rfl dX6_leastAt_70 ?_
      refine rg_get (pc := 71) C 134 6 9 kd_134 (by decide) rfl inlX6 (by decide) wd_605 rfl dX6_leastAt_71 ?_
      refine rg_bipush (pc := 74) (v := 12) C dX6_leastAt_74 (by decide) ?_
      refine rg_iload (pc := 76) C 4 rfl dX6_leastAt_76 ?_
      refine rg_iadd (pc := 78) C dX6_leastAt_78 ?_
      obtain ⟨g3, hf⟩ := ra_gd hf
      refine rg_iald (pc := 79) (j := (ra_ix (12 + v4))) C 136 kd_136 rfl g3 dX6_leastAt_79 ?_
      refine rg_aload_n (pc := 80) C 0 rfl rfl dX6_leastAt_80 ?_
      refine rg_get (pc := 81) C 134 6 9 kd_134 (by decide) rfl inlX6 (by decide) wd_605 rfl dX6_leastAt_81 ?_
      refine rg_bipush (pc := 84) (v := 12) C dX6_leastAt_84 (by decide) ?_
      refine rg_iload_n (pc := 86) C 3 rfl rfl dX6_leastAt_86 ?_
      refine rg_iadd (pc := 87) C dX6_leastAt_87 ?_
      obtain ⟨g4, hf⟩ := ra_gd hf
      refine rg_iald (pc := 88) (j := (ra_ix (12 + v3))) C 136 kd_136 rfl g4 dX6_leastAt_88 ?_
      refine rg_icmp_gt (pc := 89) (tgt := 97) C dX6_leastAt_89 (by decide) (fun c5 => ?_) (fun c5 => ?_)
      · replace hf := ra_t hf c5
        refine rg_sub [0, 1, 2, 3, 4] rfl ?_
        exact ih5 _ _ _ _ _ hf
      · replace hf := ra_f hf c5
        refine rg_sub [0, 1, 2, 4] rfl ?_
        exact ih4 _ _ _ _ _ hf
set_option maxHeartbeats 4000000 in
theorem tX6_leastAt_4 {Z : ra_Z} {r : Int32} {w1 : ra_W} (C : ra_C Z cX6_leastAt 6 RX6 1 21) (hQ : ra_QI Z r w1) (hr : (zmt Z).sig.returnType = (some .int)) (k : Nat) (b1 : Nat) (h1 : ra_kd b1 = (10, 41)) (n : Nat) (ih6 : pX6_leastAt_6 Z r w1 k b1 n) : pX6_leastAt_4 Z r w1 k b1 (n + 1) := by
  intro v2 v3 v4 s0 w hf
  rw [fX6_leastAt_4] at hf
  refine rg_iload (pc := 92) C 3 rfl dX6_leastAt_92 ?_
  refine rg_goto (pc := 94) (tgt := 98) C dX6_leastAt_94 (by decide) ?_
  exact ih6 _ _ _ _ _ hf
set_option maxHeartbeats 4000000 in
theorem tX6_leastAt_5 {Z : ra_Z} {r : Int32} {w1 : ra_W} (C : ra_C Z cX6_leastAt 6 RX6 1 21) (hQ : ra_QI Z r w1) (hr : (zmt Z).sig.returnType = (some .int)) (k : Nat) (b1 : Nat) (h1 : ra_kd b1 = (10, 41)) (n : Nat) (ih6 : pX6_leastAt_6 Z r w1 k b1 n) : pX6_leastAt_5 Z r w1 k b1 (n + 1) := by
  intro v2 v3 v4 s0 w hf
  rw [fX6_leastAt_5] at hf
  refine rg_iload_n (pc := 97) C 3 rfl rfl dX6_leastAt_97 ?_
  refine rg_sub [0, 1, 2, 4] rfl ?_
  exact ih6 _ _ _ _ _ hf
set_option maxHeartbeats 4000000 in
theorem tX6_leastAt_6 {Z : ra_Z} {r : Int32} {w1 : ra_W} (C : ra_C Z cX6_leastAt 6 RX6 1 21) (hQ : ra_QI Z r w1) (hr : (zmt Z).sig.returnType = (some .int)) (k : Nat) (b1 : Nat) (h1 : ra_kd b1 = (10, 41)) (n : Nat) (ih1 : pX6_leastAt_1 Z r w1 k b1 n) : pX6_leastAt_6 Z r w1 k b1 (n + 1) := by
  intro v2 v3 v4 s0 w hf
  rw [fX6_leastAt_6] at hf
  refine rg_istore_n (pc := 98) (lv' := [(0, .ref ((zG Z).1 134)), (1, .ref ((zG Z).1 b1)), (2, .int v2), (3, .int s0), (4, .int v4)]) C [1, 2, 3, 0, 4] rfl rfl (by decide) dX6_leastAt_98 ?_
  refine rg_iinc (pc := 99) (v := (v4 + 1)) (lv' := [(0, .ref ((zG Z).1 134)), (1, .ref ((zG Z).1 b1)), (2, .int v2), (3, .int s0), (4, .int (v4 + 1))]) C 4 rfl [1, 2, 3, 4, 0] (ra_ii (by decide)) rfl (by decide) dX6_leastAt_99 ?_
  refine rg_goto (pc := 102) (tgt := 6) C dX6_leastAt_102 (by decide) ?_
  exact ih1 _ _ _ _ _ hf
theorem tX6_leastAt {Z : ra_Z} {r : Int32} {w1 : ra_W} (C : ra_C Z cX6_leastAt 6 RX6 1 21) (hQ : ra_QI Z r w1) (hr : (zmt Z).sig.returnType = (some .int)) (k : Nat) (b1 : Nat) (h1 : ra_kd b1 = (10, 41)) : ∀ n : Nat, pX6_leastAt_0 Z r w1 k b1 n ∧ pX6_leastAt_1 Z r w1 k b1 n ∧ pX6_leastAt_2 Z r w1 k b1 n ∧ pX6_leastAt_3 Z r w1 k b1 n ∧ pX6_leastAt_4 Z r w1 k b1 n ∧ pX6_leastAt_5 Z r w1 k b1 n ∧ pX6_leastAt_6 Z r w1 k b1 n := by
  intro n
  induction n with
  | zero => exact ⟨(fun _ _ _ _ _ h => by cases h), (fun _ _ _ _ _ h => by cases h), (fun _ _ _ _ _ h => by cases h), (fun _ _ _ _ _ h => by cases h), (fun _ _ _ _ _ h => by cases h), (fun _ _ _ _ _ h => by cases h), (fun _ _ _ _ _ h => by cases h)⟩
  | succ n ih =>
    obtain ⟨ih0, ih1, ih2, ih3, ih4, ih5, ih6⟩ := ih
    exact ⟨tX6_leastAt_0 C hQ hr k b1 h1 n ih1, tX6_leastAt_1 C hQ hr k b1 h1 n ih2 ih3, tX6_leastAt_2 C hQ hr k b1 h1 n ih3, tX6_leastAt_3 C hQ hr k b1 h1 n ih4 ih5, tX6_leastAt_4 C hQ hr k b1 h1 n ih6, tX6_leastAt_5 C hQ hr k b1 h1 n ih6, tX6_leastAt_6 C hQ hr k b1 h1 n ih1⟩
theorem kX6_leastAt (l : Launch) (G : ra_G) (hj : ra_inj G) (k : Nat) (b1 : Nat) (h1 : ra_kd b1 = (10, 41)) (v2 : Int32) (w : ra_W) (r : Int32) (w1 : ra_W) (h : FX6_leastAt k b1 v2 w = some (r, w1)) : ra_MI l G yX6_leastAt cX6_leastAt 6 (some .int) 1 21 [.ref (G.1 134), .ref (G.1 b1), .int v2] w r w1 :=
  ra_entryI (own := RX6) (by decide) rfl (Nat.le_of_ble_eq_true rfl) hj (fun Z hl hG C hQ hr => by subst hl; subst hG; exact (tX6_leastAt C hQ hr k b1 h1 k).1 _ _ _ _ _ h)
theorem ysX6_leastAt : ra_YV yX6_leastAt cX6_leastAt 6 (some .int) 2 RX6 := ⟨⟨wd_7, wd_791, by decide, by decide, by decide⟩, wd_790, wp_42⟩
/-- TrunkRadioModel.isFree -/
def fX6_isFree (k : Nat) (b1 : Nat) : Nat → Nat → Int32 → ra_W → Option (Int32 × ra_W)
  | 0, _, _, _ => none
  | n + 1, L, v2, w => match L with
    | 0 => ra_bind (FX6_has k v2 0 w) (fun r1 w2 => if r1 = 0 then (fX6_isFree k b1 n 1 v2 w2) else (ra_bind (FX6_freeAt k b1 0 w2) (fun r5 w6 => if r5 ≤ 0 then (some (0, w6)) else (fX6_isFree k b1 n 1 v2 w6))))
    | _ => ra_bind (FX6_has k v2 1 w) (fun r1 w2 => if r1 = 0 then (some (1, w2)) else (ra_bind (FX6_freeAt k b1 1 w2) (fun r5 w6 => if r5 ≤ 0 then (some (0, w6)) else (some (1, w6)))))
theorem fX6_isFree_0 (k : Nat) (b1 : Nat) (n : Nat) (v2 : Int32) (w : ra_W) : fX6_isFree k b1 (n + 1) 0 v2 w = (ra_bind (FX6_has k v2 0 w) (fun r1 w2 => if r1 = 0 then (fX6_isFree k b1 n 1 v2 w2) else (ra_bind (FX6_freeAt k b1 0 w2) (fun r5 w6 => if r5 ≤ 0 then (some (0, w6)) else (fX6_isFree k b1 n 1 v2 w6))))) := rfl
theorem fX6_isFree_1 (k : Nat) (b1 : Nat) (n : Nat) (v2 : Int32) (w : ra_W) : fX6_isFree k b1 (n + 1) 1 v2 w = (ra_bind (FX6_has k v2 1 w) (fun r1 w2 => if r1 = 0 then (some (1, w2)) else (ra_bind (FX6_freeAt k b1 1 w2) (fun r5 w6 => if r5 ≤ 0 then (some (0, w6)) else (some (1, w6)))))) := rfl
def FX6_isFree (k : Nat) (b1 : Nat) (v2 : Int32) (w : ra_W) : Option (Int32 × ra_W) := fX6_isFree k b1 k 0 v2 w
def pX6_isFree_0 (Z : ra_Z) (r : Int32) (w1 : ra_W) (k : Nat) (b1 : Nat) (n : Nat) : Prop := ∀ (v2 : Int32) (w : ra_W), fX6_isFree k b1 n 0 v2 w = some (r, w1) → ra_J Z 3 0 [(0, .ref ((zG Z).1 134)), (1, .ref ((zG Z).1 b1)), (2, .int v2)] [] w
def pX6_isFree_1 (Z : ra_Z) (r : Int32) (w1 : ra_W) (k : Nat) (b1 : Nat) (n : Nat) : Prop := ∀ (v2 : Int32) (w : ra_W), fX6_isFree k b1 n 1 v2 w = some (r, w1) → ra_J Z 3 17 [(0, .ref ((zG Z).1 134)), (1, .ref ((zG Z).1 b1)), (2, .int v2)] [] w
set_option maxHeartbeats 4000000 in
theorem tX6_isFree_0 {Z : ra_Z} {r : Int32} {w1 : ra_W} (C : ra_C Z cX6_isFree 3 RX6 2 45) (hQ : ra_QI Z r w1) (hr : (zmt Z).sig.returnType = (some .boolean)) (k : Nat) (b1 : Nat) (h1 : ra_kd b1 = (10, 41)) (n : Nat) (ih1 : pX6_isFree_1 Z r w1 k b1 n) : pX6_isFree_0 Z r w1 k b1 (n + 1) := by
  intro v2 w hf
  rw [fX6_isFree_0] at hf
  refine rg_iload_n (pc := 0) C 2 rfl rfl dX6_isFree_0 ?_
  refine rg_iconst (pc := 1) (v := 0) C dX6_isFree_1 (by decide) ?_
  obtain ⟨r1, w2, e3, hf⟩ := ra_bd hf
  refine rg_callSI (pc := 2) (As := [.int v2, .int 0]) (st := []) C (kX6_has (zl Z) (zG Z) C.hj k _ _ _ _ _ e3) ysX6_has rfl wd_777 ⟨Nat.le_of_ble_eq_true rfl, Nat.le_of_ble_eq_true rfl⟩ rfl (Nat.le_of_ble_eq_true rfl) dX6_isFree_2 ?_
  refine rg_if_eq (pc := 5) (tgt := 17) C dX6_isFree_5 (by decide) (fun c4 => ?_) (fun c4 => ?_)
  · replace hf := ra_t hf c4
    exact ih1 _ _ hf
  · replace hf := ra_f hf c4
    refine rg_aload_n (pc := 8) C 0 rfl rfl dX6_isFree_8 ?_
    refine rg_aload_n (pc := 9) C 1 rfl rfl dX6_isFree_9 ?_
    refine rg_iconst (pc := 10) (v := 0) C dX6_isFree_10 (by decide) ?_
    obtain ⟨r5, w6, e7, hf⟩ := ra_bd hf
    refine rg_callVI (pc := 11) (As := [.ref ((zG Z).1 b1), .int 0]) (st := []) C (kX6_freeAt (zl Z) (zG Z) C.hj k b1 h1 _ _ _ _ e7) kd_134 (by decide) rfl ysX6_freeAt rfl wd_780 ⟨Nat.le_of_ble_eq_true rfl, Nat.le_of_ble_eq_true rfl⟩ rfl (Nat.le_of_ble_eq_true rfl) dX6_isFree_11 ?_
    refine rg_if_le (pc := 14) (tgt := 38) C dX6_isFree_14 (by decide) (fun c8 => ?_) (fun c8 => ?_)
    · replace hf := ra_t hf c8
      refine rg_iconst (pc := 38) (v := 0) C dX6_isFree_38 (by decide) ?_
      exact rg_zret (pc := 39) C hQ hr (by decide) hf dX6_isFree_39
    · replace hf := ra_f hf c8
      exact ih1 _ _ hf
set_option maxHeartbeats 4000000 in
theorem tX6_isFree_1 {Z : ra_Z} {r : Int32} {w1 : ra_W} (C : ra_C Z cX6_isFree 3 RX6 2 45) (hQ : ra_QI Z r w1) (hr : (zmt Z).sig.returnType = (some .boolean)) (k : Nat) (b1 : Nat) (h1 : ra_kd b1 = (10, 41)) (n : Nat) : pX6_isFree_1 Z r w1 k b1 (n + 1) := by
  intro v2 w hf
  rw [fX6_isFree_1] at hf
  refine rg_iload_n (pc := 17) C 2 rfl rfl dX6_isFree_17 ?_
  refine rg_iconst (pc := 18) (v := 1) C dX6_isFree_18 (by decide) ?_
  obtain ⟨r1, w2, e3, hf⟩ := ra_bd hf
  refine rg_callSI (pc := 19) (As := [.int v2, .int 1]) (st := []) C (kX6_has (zl Z) (zG Z) C.hj k _ _ _ _ _ e3) ysX6_has rfl wd_777 ⟨Nat.le_of_ble_eq_true rfl, Nat.le_of_ble_eq_true rfl⟩ rfl (Nat.le_of_ble_eq_true rfl) dX6_isFree_19 ?_
  refine rg_if_eq (pc := 22) (tgt := 34) C dX6_isFree_22 (by decide) (fun c4 => ?_) (fun c4 => ?_)
  · replace hf := ra_t hf c4
    refine rg_iconst (pc := 34) (v := 1) C dX6_isFree_34 (by decide) ?_
    refine rg_goto (pc := 35) (tgt := 39) C dX6_isFree_35 (by decide) ?_
    exact rg_zret (pc := 39) C hQ hr (by decide) hf dX6_isFree_39
  · replace hf := ra_f hf c4
    refine rg_aload_n (pc := 25) C 0 rfl rfl dX6_isFree_25 ?_
    refine rg_aload_n (pc := 26) C 1 rfl rfl dX6_isFree_26 ?_
    refine rg_iconst (pc := 27) (v := 1) C dX6_isFree_27 (by decide) ?_
    obtain ⟨r5, w6, e7, hf⟩ := ra_bd hf
    refine rg_callVI (pc := 28) (As := [.ref ((zG Z).1 b1), .int 1]) (st := []) C (kX6_freeAt (zl Z) (zG Z) C.hj k b1 h1 _ _ _ _ e7) kd_134 (by decide) rfl ysX6_freeAt rfl wd_780 ⟨Nat.le_of_ble_eq_true rfl, Nat.le_of_ble_eq_true rfl⟩ rfl (Nat.le_of_ble_eq_true rfl) dX6_isFree_28 ?_
    refine rg_if_le (pc := 31) (tgt := 38) C dX6_isFree_31 (by decide) (fun c8 => ?_) (fun c8 => ?_)
    · replace hf := ra_t hf c8
      refine rg_iconst (pc := 38) (v := 0) C dX6_isFree_38 (by decide) ?_
      exact rg_zret (pc := 39) C hQ hr (by decide) hf dX6_isFree_39
    · replace hf := ra_f hf c8
      refine rg_iconst (pc := 34) (v := 1) C dX6_isFree_34 (by decide) ?_
      refine rg_goto (pc := 35) (tgt := 39) C dX6_isFree_35 (by decide) ?_
      exact rg_zret (pc := 39) C hQ hr (by decide) hf dX6_isFree_39
theorem tX6_isFree {Z : ra_Z} {r : Int32} {w1 : ra_W} (C : ra_C Z cX6_isFree 3 RX6 2 45) (hQ : ra_QI Z r w1) (hr : (zmt Z).sig.returnType = (some .boolean)) (k : Nat) (b1 : Nat) (h1 : ra_kd b1 = (10, 41)) : ∀ n : Nat, pX6_isFree_0 Z r w1 k b1 n ∧ pX6_isFree_1 Z r w1 k b1 n := by
  intro n
  induction n with
  | zero => exact ⟨(fun _ _ h => by cases h), (fun _ _ h => by cases h)⟩
  | succ n ih =>
    obtain ⟨ih0, ih1⟩ := ih
    exact ⟨tX6_isFree_0 C hQ hr k b1 h1 n ih1, tX6_isFree_1 C hQ hr k b1 h1 n⟩
theorem kX6_isFree (l : Launch) (G : ra_G) (hj : ra_inj G) (k : Nat) (b1 : Nat) (h1 : ra_kd b1 = (10, 41)) (v2 : Int32) (w : ra_W) (r : Int32) (w1 : ra_W) (h : FX6_isFree k b1 v2 w = some (r, w1)) : ra_MI l G yX6_isFree cX6_isFree 3 (some .boolean) 2 45 [.ref (G.1 134), .ref (G.1 b1), .int v2] w r w1 :=
  ra_entryI (own := RX6) (by decide) rfl (Nat.le_of_ble_eq_true rfl) hj (fun Z hl hG C hQ hr => by subst hl; subst hG; exact (tX6_isFree C hQ hr k b1 h1 k).1 _ _ h)
theorem ysX6_isFree : ra_YV yX6_isFree cX6_isFree 3 (some .boolean) 2 RX6 := ⟨⟨wd_7, wd_776, by decide, by decide, by decide⟩, wd_775, wp_39⟩
/-- TrunkRadioModel.takesOver -/
def fX6_takesOver (k : Nat) (b1 : Nat) : Nat → Nat → Int32 → Int32 → Int32 → Int32 → ra_W → Option (Int32 × ra_W)
  | 0, _, _, _, _, _, _ => none
  | n + 1, L, v2, v3, v4, s0, w => match L with
    | 0 => fX6_takesOver k b1 n 1 v2 1 0 0 w
    | 1 => if 2 ≤ v4 then (fX6_takesOver k b1 n 5 v2 v3 0 0 w) else (if v3 = 0 then (fX6_takesOver k b1 n 3 v2 0 v4 0 w) else (ra_bind (FX6_has k v2 v4 w) (fun r3 w4 => if r3 = 0 then (fX6_takesOver k b1 n 2 v2 0 v4 0 w4) else (ra_bind (FX6_freeAt k b1 v4 w4) (fun r7 w8 => if 0 < r7 then (fX6_takesOver k b1 n 2 v2 0 v4 0 w8) else (ra_bind (FX6_leastAt k b1 v4 w8) (fun r11 w12 => if r11 = (-9) then (fX6_takesOver k b1 n 3 v2 0 v4 0 w12) else (fX6_takesOver k b1 n 2 v2 0 v4 0 w12))))))))
    | 2 => fX6_takesOver k b1 n 4 v2 0 v4 1 w
    | 3 => fX6_takesOver k b1 n 4 v2 0 v4 0 w
    | 4 => fX6_takesOver k b1 n 1 v2 s0 (v4 + 1) 0 w
    | 5 => if 2 ≤ v4 then (some (0, w)) else (if v3 = 0 then (some (0, w)) else (ra_bind (FX6_has k v2 v4 w) (fun r3 w4 => if r3 = 0 then (fX6_takesOver k b1 n 6 v2 v3 v4 0 w4) else (ra_bind (FX6_freeAt k b1 v4 w4) (fun r7 w8 => if 0 < r7 then (fX6_takesOver k b1 n 6 v2 v3 v4 0 w8) else (ra_bind (FX6_leastAt k b1 v4 w8) (fun r11 w12 => ra_bind (FX6_rests k b1 r11 w12) (fun _ w15 => fX6_takesOver k b1 n 6 v2 v3 v4 0 w15))))))))
    | _ => fX6_takesOver k b1 n 5 v2 v3 (v4 + 1) 0 w
theorem fX6_takesOver_0 (k : Nat) (b1 : Nat) (n : Nat) (v2 : Int32) (v3 : Int32) (v4 : Int32) (s0 : Int32) (w : ra_W) : fX6_takesOver k b1 (n + 1) 0 v2 v3 v4 s0 w = (fX6_takesOver k b1 n 1 v2 1 0 0 w) := rfl
theorem fX6_takesOver_1 (k : Nat) (b1 : Nat) (n : Nat) (v2 : Int32) (v3 : Int32) (v4 : Int32) (s0 : Int32) (w : ra_W) : fX6_takesOver k b1 (n + 1) 1 v2 v3 v4 s0 w = (if 2 ≤ v4 then (fX6_takesOver k b1 n 5 v2 v3 0 0 w) else (if v3 = 0 then (fX6_takesOver k b1 n 3 v2 0 v4 0 w) else (ra_bind (FX6_has k v2 v4 w) (fun r3 w4 => if r3 = 0 then (fX6_takesOver k b1 n 2 v2 0 v4 0 w4) else (ra_bind (FX6_freeAt k b1 v4 w4) (fun r7 w8 => if 0 < r7 then (fX6_takesOver k b1 n 2 v2 0 v4 0 w8) else (ra_bind (FX6_leastAt k b1 v4 w8) (fun r11 w12 => if r11 = (-9) then (fX6_takesOver k b1 n 3 v2 0 v4 0 w12) else (fX6_takesOver k b1 n 2 v2 0 v4 0 w12))))))))) := rfl
theorem fX6_takesOver_2 (k : Nat) (b1 : Nat) (n : Nat) (v2 : Int32) (v3 : Int32) (v4 : Int32) (s0 : Int32) (w : ra_W) : fX6_takesOver k b1 (n + 1) 2 v2 v3 v4 s0 w = (fX6_takesOver k b1 n 4 v2 0 v4 1 w) := rfl
theorem fX6_takesOver_3 (k : Nat) (b1 : Nat) (n : Nat) (v2 : Int32) (v3 : Int32) (v4 : Int32) (s0 : Int32) (w : ra_W) : fX6_takesOver k b1 (n + 1) 3 v2 v3 v4 s0 w = (fX6_takesOver k b1 n 4 v2 0 v4 0 w) := rfl
theorem fX6_takesOver_4 (k : Nat) (b1 : Nat) (n : Nat) (v2 : Int32) (v3 : Int32) (v4 : Int32) (s0 : Int32) (w : ra_W) : fX6_takesOver k b1 (n + 1) 4 v2 v3 v4 s0 w = (fX6_takesOver k b1 n 1 v2 s0 (v4 + 1) 0 w) := rfl
theorem fX6_takesOver_5 (k : Nat) (b1 : Nat) (n : Nat) (v2 : Int32) (v3 : Int32) (v4 : Int32) (s0 : Int32) (w : ra_W) : fX6_takesOver k b1 (n + 1) 5 v2 v3 v4 s0 w = (if 2 ≤ v4 then (some (0, w)) else (if v3 = 0 then (some (0, w)) else (ra_bind (FX6_has k v2 v4 w) (fun r3 w4 => if r3 = 0 then (fX6_takesOver k b1 n 6 v2 v3 v4 0 w4) else (ra_bind (FX6_freeAt k b1 v4 w4) (fun r7 w8 => if 0 < r7 then (fX6_takesOver k b1 n 6 v2 v3 v4 0 w8) else (ra_bind (FX6_leastAt k b1 v4 w8) (fun r11 w12 => ra_bind (FX6_rests k b1 r11 w12) (fun _ w15 => fX6_takesOver k b1 n 6 v2 v3 v4 0 w15))))))))) := rfl
theorem fX6_takesOver_6 (k : Nat) (b1 : Nat) (n : Nat) (v2 : Int32) (v3 : Int32) (v4 : Int32) (s0 : Int32) (w : ra_W) : fX6_takesOver k b1 (n + 1) 6 v2 v3 v4 s0 w = (fX6_takesOver k b1 n 5 v2 v3 (v4 + 1) 0 w) := rfl
def FX6_takesOver (k : Nat) (b1 : Nat) (v2 : Int32) (w : ra_W) : Option (Int32 × ra_W) := fX6_takesOver k b1 k 0 v2 0 0 0 w
def pX6_takesOver_0 (Z : ra_Z) (r : Int32) (w1 : ra_W) (k : Nat) (b1 : Nat) (n : Nat) : Prop := ∀ (v2 : Int32) (v3 : Int32) (v4 : Int32) (s0 : Int32) (w : ra_W), fX6_takesOver k b1 n 0 v2 v3 v4 s0 w = some (r, w1) → ra_J Z 5 0 [(0, .ref ((zG Z).1 134)), (1, .ref ((zG Z).1 b1)), (2, .int v2)] [] w
def pX6_takesOver_1 (Z : ra_Z) (r : Int32) (w1 : ra_W) (k : Nat) (b1 : Nat) (n : Nat) : Prop := ∀ (v2 : Int32) (v3 : Int32) (v4 : Int32) (s0 : Int32) (w : ra_W), fX6_takesOver k b1 n 1 v2 v3 v4 s0 w = some (r, w1) → ra_J Z 5 5 [(0, .ref ((zG Z).1 134)), (1, .ref ((zG Z).1 b1)), (2, .int v2), (3, .int v3), (4, .int v4)] [] w
def pX6_takesOver_2 (Z : ra_Z) (r : Int32) (w1 : ra_W) (k : Nat) (b1 : Nat) (n : Nat) : Prop := ∀ (v2 : Int32) (v3 : Int32) (v4 : Int32) (s0 : Int32) (w : ra_W), fX6_takesOver k b1 n 2 v2 v3 v4 s0 w = some (r, w1) → ra_J Z 5 46 [(0, .ref ((zG Z).1 134)), (1, .ref ((zG Z).1 b1)), (2, .int v2), (4, .int v4)] [] w
def pX6_takesOver_3 (Z : ra_Z) (r : Int32) (w1 : ra_W) (k : Nat) (b1 : Nat) (n : Nat) : Prop := ∀ (v2 : Int32) (v3 : Int32) (v4 : Int32) (s0 : Int32) (w : ra_W), fX6_takesOver k b1 n 3 v2 v3 v4 s0 w = some (r, w1) → ra_J Z 5 50 [(0, .ref ((zG Z).1 134)), (1, .ref ((zG Z).1 b1)), (2, .int v2), (4, .int v4)] [] w
def pX6_takesOver_4 (Z : ra_Z) (r : Int32) (w1 : ra_W) (k : Nat) (b1 : Nat) (n : Nat) : Prop := ∀ (v2 : Int32) (v3 : Int32) (v4 : Int32) (s0 : Int32) (w : ra_W), fX6_takesOver k b1 n 4 v2 v3 v4 s0 w = some (r, w1) → ra_J Z 5 51 [(0, .ref ((zG Z).1 134)), (1, .ref ((zG Z).1 b1)), (2, .int v2), (4, .int v4)] [.int s0] w
def pX6_takesOver_5 (Z : ra_Z) (r : Int32) (w1 : ra_W) (k : Nat) (b1 : Nat) (n : Nat) : Prop := ∀ (v2 : Int32) (v3 : Int32) (v4 : Int32) (s0 : Int32) (w : ra_W), fX6_takesOver k b1 n 5 v2 v3 v4 s0 w = some (r, w1) → ra_J Z 5 61 [(0, .ref ((zG Z).1 134)), (1, .ref ((zG Z).1 b1)), (2, .int v2), (3, .int v3), (4, .int v4)] [] w
def pX6_takesOver_6 (Z : ra_Z) (r : Int32) (w1 : ra_W) (k : Nat) (b1 : Nat) (n : Nat) : Prop := ∀ (v2 : Int32) (v3 : Int32) (v4 : Int32) (s0 : Int32) (w : ra_W), fX6_takesOver k b1 n 6 v2 v3 v4 s0 w = some (r, w1) → ra_J Z 5 101 [(0, .ref ((zG Z).1 134)), (1, .ref ((zG Z).1 b1)), (2, .int v2), (3, .int v3), (4, .int v4)] [] w
set_option maxHeartbeats 4000000 in
theorem tX6_takesOver_0 {Z : ra_Z} {r : Int32} {w1 : ra_W} (C : ra_C Z cX6_takesOver 5 RX6 2 46) (hQ : ra_QV Z r w1) (hr : (zmt Z).sig.returnType = none) (k : Nat) (b1 : Nat) (h1 : ra_kd b1 = (10, 41)) (n : Nat) (ih1 : pX6_takesOver_1 Z r w1 k b1 n) : pX6_takesOver_0 Z r w1 k b1 (n + 1) := by
  intro v2 v3 v4 s0 w hf
  rw [fX6_takesOver_0] at hf
  refine rg_iconst (pc := 0) (v := 1) C dX6_takesOver_0 (by decide) ?_
  refine rg_istore_n (pc := 1) (lv' := [(0, .ref ((zG Z).1 134)), (1, .ref ((zG Z).1 b1)), (2, .int v2), (3, .int 1)]) C [1, 2, 3, 0] rfl rfl (by decide) dX6_takesOver_1 ?_
  refine rg_iconst (pc := 2) (v := 0) C dX6_takesOver_2 (by decide) ?_
  refine rg_istore (pc := 3) (lv' := [(0, .ref ((zG Z).1 134)), (1, .ref ((zG Z).1 b1)), (2, .int v2), (3, .int 1), (4, .int 0)]) C [1, 2, 3, 4, 0] rfl (by decide) dX6_takesOver_3 ?_
  exact ih1 _ _ _ _ _ hf
set_option maxHeartbeats 4000000 in
theorem tX6_takesOver_1 {Z : ra_Z} {r : Int32} {w1 : ra_W} (C : ra_C Z cX6_takesOver 5 RX6 2 46) (hQ : ra_QV Z r w1) (hr : (zmt Z).sig.returnType = none) (k : Nat) (b1 : Nat) (h1 : ra_kd b1 = (10, 41)) (n : Nat) (ih2 : pX6_takesOver_2 Z r w1 k b1 n) (ih3 : pX6_takesOver_3 Z r w1 k b1 n) (ih5 : pX6_takesOver_5 Z r w1 k b1 n) : pX6_takesOver_1 Z r w1 k b1 (n + 1) := by
  intro v2 v3 v4 s0 w hf
  rw [fX6_takesOver_1] at hf
  refine rg_iload (pc := 5) C 4 rfl dX6_takesOver_5 ?_
  refine rg_iconst (pc := 7) (v := 2) C dX6_takesOver_7 (by decide) ?_
  refine rg_icmp_ge (pc := 8) (tgt := 58) C dX6_takesOver_8 (by decide) (fun c1 => ?_) (fun c1 => ?_)
  · replace hf := ra_t hf c1
    refine rg_iconst (pc := 58) (v := 0) C dX6_takesOver_58 (by decide) ?_
    refine rg_istore (pc := 59) (lv' := [(0, .ref ((zG Z).1 134)), (1, .ref ((zG Z).1 b1)), (2, .int v2), (3, .int v3), (4, .int 0)]) C [1, 2, 3, 4, 0] rfl (by decide) dX6_takesOver_59 ?_
    exact ih5 _ _ _ _ _ hf
  · replace hf := ra_f hf c1
    refine rg_iload_n (pc := 11) C 3 rfl rfl dX6_takesOver_11 ?_
    refine rg_if_eq (pc := 12) (tgt := 50) C dX6_takesOver_12 (by decide) (fun c2 => ?_) (fun c2 => ?_)
    · replace hf := ra_t hf c2
      refine rg_sub [0, 1, 2, 4] rfl ?_
      exact ih3 _ _ _ _ _ hf
    · replace hf := ra_f hf c2
      refine rg_iload_n (pc := 15) C 2 rfl rfl dX6_takesOver_15 ?_
      refine rg_iload (pc := 16) C 4 rfl dX6_takesOver_16 ?_
      obtain ⟨r3, w4, e5, hf⟩ := ra_bd hf
      refine rg_callSI (pc := 18) (As := [.int v2, .int v4]) (st := []) C (kX6_has (zl Z) (zG Z) C.hj k _ _ _ _ _ e5) ysX6_has rfl wd_777 ⟨Nat.le_of_ble_eq_true rfl, Nat.le_of_ble_eq_true rfl⟩ rfl (Nat.le_of_ble_eq_true rfl) dX6_takesOver_18 ?_
      refine rg_if_eq (pc := 21) (tgt := 46) C dX6_takesOver_21 (by decide) (fun c6 => ?_) (fun c6 => ?_)
      · replace hf := ra_t hf c6
        refine rg_sub [0, 1, 2, 4] rfl ?_
        exact ih2 _ _ _ _ _ hf
      · replace hf := ra_f hf c6
        refine rg_aload_n (pc := 24) C 0 rfl rfl dX6_takesOver_24 ?_
        refine rg_aload_n (pc := 25) C 1 rfl rfl dX6_takesOver_25 ?_
        refine rg_iload (pc := 26) C 4 rfl dX6_takesOver_26 ?_
        obtain ⟨r7, w8, e9, hf⟩ := ra_bd hf
        refine rg_callVI (pc := 28) (As := [.ref ((zG Z).1 b1), .int v4]) (st := []) C (kX6_freeAt (zl Z) (zG Z) C.hj k b1 h1 _ _ _ _ e9) kd_134 (by decide) rfl ysX6_freeAt rfl wd_780 ⟨Nat.le_of_ble_eq_true rfl, Nat.le_of_ble_eq_true rfl⟩ rfl (Nat.le_of_ble_eq_true rfl) dX6_takesOver_28 ?_
        refine rg_if_gt (pc := 31) (tgt := 46) C dX6_takesOver_31 (by decide) (fun c10 => ?_) (fun c10 => ?_)
        · replace hf := ra_t hf c10
          refine rg_sub [0, 1, 2, 4] rfl ?_
          exact ih2 _ _ _ _ _ hf
        · replace hf := ra_f hf c10
          refine rg_aload_n (pc := 34) C 0 rfl rfl dX6_takesOver_34 ?_
          refine rg_aload_n (pc := 35) C 1 rfl rfl dX6_takesOver_35 ?_
          refine rg_iload (pc := 36) C 4 rfl dX6_takesOver_36 ?_
          obtain ⟨r11, w12, e13, hf⟩ := ra_bd hf
          refine rg_callVI (pc := 38) (As := [.ref ((zG Z).1 b1), .int v4]) (st := []) C (kX6_leastAt (zl Z) (zG Z) C.hj k b1 h1 _ _ _ _ e13) kd_134 (by decide) rfl ysX6_leastAt rfl wd_788 ⟨Nat.le_of_ble_eq_true rfl, Nat.le_of_ble_eq_true rfl⟩ rfl (Nat.le_of_ble_eq_true rfl) dX6_takesOver_38 ?_
          refine rg_bipush (pc := 41) (v := (-9)) C dX6_takesOver_41 (by decide) ?_
          refine rg_icmp_eq (pc := 43) (tgt := 50) C dX6_takesOver_43 (by decide) (fun c14 => ?_) (fun c14 => ?_)
          · replace hf := ra_t hf c14
            refine rg_sub [0, 1, 2, 4] rfl ?_
            exact ih3 _ _ _ _ _ hf
          · replace hf := ra_f hf c14
            refine rg_sub [0, 1, 2, 4] rfl ?_
            exact ih2 _ _ _ _ _ hf
set_option maxHeartbeats 4000000 in
theorem tX6_takesOver_2 {Z : ra_Z} {r : Int32} {w1 : ra_W} (C : ra_C Z cX6_takesOver 5 RX6 2 46) (hQ : ra_QV Z r w1) (hr : (zmt Z).sig.returnType = none) (k : Nat) (b1 : Nat) (h1 : ra_kd b1 = (10, 41)) (n : Nat) (ih4 : pX6_takesOver_4 Z r w1 k b1 n) : pX6_takesOver_2 Z r w1 k b1 (n + 1) := by
  intro v2 v3 v4 s0 w hf
  rw [fX6_takesOver_2] at hf
  refine rg_iconst (pc := 46) (v := 1) C dX6_takesOver_46 (by decide) ?_
  refine rg_goto (pc := 47) (tgt := 51) C dX6_takesOver_47 (by decide) ?_
  exact ih4 _ _ _ _ _ hf
set_option maxHeartbeats 4000000 in
theorem tX6_takesOver_3 {Z : ra_Z} {r : Int32} {w1 : ra_W} (C : ra_C Z cX6_takesOver 5 RX6 2 46) (hQ : ra_QV Z r w1) (hr : (zmt Z).sig.returnType = none) (k : Nat) (b1 : Nat) (h1 : ra_kd b1 = (10, 41)) (n : Nat) (ih4 : pX6_takesOver_4 Z r w1 k b1 n) : pX6_takesOver_3 Z r w1 k b1 (n + 1) := by
  intro v2 v3 v4 s0 w hf
  rw [fX6_takesOver_3] at hf
  refine rg_iconst (pc := 50) (v := 0) C dX6_takesOver_50 (by decide) ?_
  exact ih4 _ _ _ _ _ hf
set_option maxHeartbeats 4000000 in
theorem tX6_takesOver_4 {Z : ra_Z} {r : Int32} {w1 : ra_W} (C : ra_C Z cX6_takesOver 5 RX6 2 46) (hQ : ra_QV Z r w1) (hr : (zmt Z).sig.returnType = none) (k : Nat) (b1 : Nat) (h1 : ra_kd b1 = (10, 41)) (n : Nat) (ih1 : pX6_takesOver_1 Z r w1 k b1 n) : pX6_takesOver_4 Z r w1 k b1 (n + 1) := by
  intro v2 v3 v4 s0 w hf
  rw [fX6_takesOver_4] at hf
  refine rg_istore_n (pc := 51) (lv' := [(0, .ref ((zG Z).1 134)), (1, .ref ((zG Z).1 b1)), (2, .int v2), (3, .int s0), (4, .int v4)]) C [1, 2, 3, 0, 4] rfl rfl (by decide) dX6_takesOver_51 ?_
  refine rg_iinc (pc := 52) (v := (v4 + 1)) (lv' := [(0, .ref ((zG Z).1 134)), (1, .ref ((zG Z).1 b1)), (2, .int v2), (3, .int s0), (4, .int (v4 + 1))]) C 4 rfl [1, 2, 3, 4, 0] (ra_ii (by decide)) rfl (by decide) dX6_takesOver_52 ?_
  refine rg_goto (pc := 55) (tgt := 5) C dX6_takesOver_55 (by decide) ?_
  exact ih1 _ _ _ _ _ hf
set_option maxHeartbeats 4000000 in
theorem tX6_takesOver_5 {Z : ra_Z} {r : Int32} {w1 : ra_W} (C : ra_C Z cX6_takesOver 5 RX6 2 46) (hQ : ra_QV Z r w1) (hr : (zmt Z).sig.returnType = none) (k : Nat) (b1 : Nat) (h1 : ra_kd b1 = (10, 41)) (n : Nat) (ih6 : pX6_takesOver_6 Z r w1 k b1 n) : pX6_takesOver_5 Z r w1 k b1 (n + 1) := by
  intro v2 v3 v4 s0 w hf
  rw [fX6_takesOver_5] at hf
  refine rg_iload (pc := 61) C 4 rfl dX6_takesOver_61 ?_
  refine rg_iconst (pc := 63) (v := 2) C dX6_takesOver_63 (by decide) ?_
  refine rg_icmp_ge (pc := 64) (tgt := 107) C dX6_takesOver_64 (by decide) (fun c1 => ?_) (fun c1 => ?_)
  · replace hf := ra_t hf c1
    exact rg_vret (pc := 107) C hQ hr hf dX6_takesOver_107
  · replace hf := ra_f hf c1
    refine rg_iload_n (pc := 67) C 3 rfl rfl dX6_takesOver_67 ?_
    refine rg_if_eq (pc := 68) (tgt := 107) C dX6_takesOver_68 (by decide) (fun c2 => ?_) (fun c2 => ?_)
    · replace hf := ra_t hf c2
      exact rg_vret (pc := 107) C hQ hr hf dX6_takesOver_107
    · replace hf := ra_f hf c2
      refine rg_iload_n (pc := 71) C 2 rfl rfl dX6_takesOver_71 ?_
      refine rg_iload (pc := 72) C 4 rfl dX6_takesOver_72 ?_
      obtain ⟨r3, w4, e5, hf⟩ := ra_bd hf
      refine rg_callSI (pc := 74) (As := [.int v2, .int v4]) (st := []) C (kX6_has (zl Z) (zG Z) C.hj k _ _ _ _ _ e5) ysX6_has rfl wd_777 ⟨Nat.le_of_ble_eq_true rfl, Nat.le_of_ble_eq_true rfl⟩ rfl (Nat.le_of_ble_eq_true rfl) dX6_takesOver_74 ?_
      refine rg_if_eq (pc := 77) (tgt := 101) C dX6_takesOver_77 (by decide) (fun c6 => ?_) (fun c6 => ?_)
      · replace hf := ra_t hf c6
        exact ih6 _ _ _ _ _ hf
      · replace hf := ra_f hf c6
        refine rg_aload_n (pc := 80) C 0 rfl rfl dX6_takesOver_80 ?_
        refine rg_aload_n (pc := 81) C 1 rfl rfl dX6_takesOver_81 ?_
        refine rg_iload (pc := 82) C 4 rfl dX6_takesOver_82 ?_
        obtain ⟨r7, w8, e9, hf⟩ := ra_bd hf
        refine rg_callVI (pc := 84) (As := [.ref ((zG Z).1 b1), .int v4]) (st := []) C (kX6_freeAt (zl Z) (zG Z) C.hj k b1 h1 _ _ _ _ e9) kd_134 (by decide) rfl ysX6_freeAt rfl wd_780 ⟨Nat.le_of_ble_eq_true rfl, Nat.le_of_ble_eq_true rfl⟩ rfl (Nat.le_of_ble_eq_true rfl) dX6_takesOver_84 ?_
        refine rg_if_gt (pc := 87) (tgt := 101) C dX6_takesOver_87 (by decide) (fun c10 => ?_) (fun c10 => ?_)
        · replace hf := ra_t hf c10
          exact ih6 _ _ _ _ _ hf
        · replace hf := ra_f hf c10
          refine rg_aload_n (pc := 90) C 1 rfl rfl dX6_takesOver_90 ?_
          refine rg_aload_n (pc := 91) C 0 rfl rfl dX6_takesOver_91 ?_
          refine rg_aload_n (pc := 92) C 1 rfl rfl dX6_takesOver_92 ?_
          refine rg_iload (pc := 93) C 4 rfl dX6_takesOver_93 ?_
          obtain ⟨r11, w12, e13, hf⟩ := ra_bd hf
          refine rg_callVI (pc := 95) (As := [.ref ((zG Z).1 b1), .int v4]) (st := [.ref ((zG Z).1 b1)]) C (kX6_leastAt (zl Z) (zG Z) C.hj k b1 h1 _ _ _ _ e13) kd_134 (by decide) rfl ysX6_leastAt rfl wd_788 ⟨Nat.le_of_ble_eq_true rfl, Nat.le_of_ble_eq_true rfl⟩ rfl (Nat.le_of_ble_eq_true rfl) dX6_takesOver_95 ?_
          obtain ⟨r14, w15, e16, hf⟩ := ra_bd hf
          refine rg_callSV (pc := 98) (As := [.ref ((zG Z).1 b1), .int r11]) (st := []) C (kX6_rests (zl Z) (zG Z) C.hj k b1 h1 _ _ _ _ e16) ysX6_rests rfl wd_750 ⟨Nat.le_of_ble_eq_true rfl, Nat.le_of_ble_eq_true rfl⟩ rfl (Nat.le_of_ble_eq_true rfl) dX6_takesOver_98 ?_
          exact ih6 _ _ _ _ _ hf
set_option maxHeartbeats 4000000 in
theorem tX6_takesOver_6 {Z : ra_Z} {r : Int32} {w1 : ra_W} (C : ra_C Z cX6_takesOver 5 RX6 2 46) (hQ : ra_QV Z r w1) (hr : (zmt Z).sig.returnType = none) (k : Nat) (b1 : Nat) (h1 : ra_kd b1 = (10, 41)) (n : Nat) (ih5 : pX6_takesOver_5 Z r w1 k b1 n) : pX6_takesOver_6 Z r w1 k b1 (n + 1) := by
  intro v2 v3 v4 s0 w hf
  rw [fX6_takesOver_6] at hf
  refine rg_iinc (pc := 101) (v := (v4 + 1)) (lv' := [(0, .ref ((zG Z).1 134)), (1, .ref ((zG Z).1 b1)), (2, .int v2), (3, .int v3), (4, .int (v4 + 1))]) C 4 rfl [1, 2, 3, 4, 0] (ra_ii (by decide)) rfl (by decide) dX6_takesOver_101 ?_
  refine rg_goto (pc := 104) (tgt := 61) C dX6_takesOver_104 (by decide) ?_
  exact ih5 _ _ _ _ _ hf
theorem tX6_takesOver {Z : ra_Z} {r : Int32} {w1 : ra_W} (C : ra_C Z cX6_takesOver 5 RX6 2 46) (hQ : ra_QV Z r w1) (hr : (zmt Z).sig.returnType = none) (k : Nat) (b1 : Nat) (h1 : ra_kd b1 = (10, 41)) : ∀ n : Nat, pX6_takesOver_0 Z r w1 k b1 n ∧ pX6_takesOver_1 Z r w1 k b1 n ∧ pX6_takesOver_2 Z r w1 k b1 n ∧ pX6_takesOver_3 Z r w1 k b1 n ∧ pX6_takesOver_4 Z r w1 k b1 n ∧ pX6_takesOver_5 Z r w1 k b1 n ∧ pX6_takesOver_6 Z r w1 k b1 n := by
  intro n
  induction n with
  | zero => exact ⟨(fun _ _ _ _ _ h => by cases h), (fun _ _ _ _ _ h => by cases h), (fun _ _ _ _ _ h => by cases h), (fun _ _ _ _ _ h => by cases h), (fun _ _ _ _ _ h => by cases h), (fun _ _ _ _ _ h => by cases h), (fun _ _ _ _ _ h => by cases h)⟩
  | succ n ih =>
    obtain ⟨ih0, ih1, ih2, ih3, ih4, ih5, ih6⟩ := ih
    exact ⟨tX6_takesOver_0 C hQ hr k b1 h1 n ih1, tX6_takesOver_1 C hQ hr k b1 h1 n ih2 ih3 ih5, tX6_takesOver_2 C hQ hr k b1 h1 n ih4, tX6_takesOver_3 C hQ hr k b1 h1 n ih4, tX6_takesOver_4 C hQ hr k b1 h1 n ih1, tX6_takesOver_5 C hQ hr k b1 h1 n ih6, tX6_takesOver_6 C hQ hr k b1 h1 n ih5⟩
theorem kX6_takesOver (l : Launch) (G : ra_G) (hj : ra_inj G) (k : Nat) (b1 : Nat) (h1 : ra_kd b1 = (10, 41)) (v2 : Int32) (w : ra_W) (r : Int32) (w1 : ra_W) (h : FX6_takesOver k b1 v2 w = some (r, w1)) : ra_MV l G yX6_takesOver cX6_takesOver 5 none 2 46 [.ref (G.1 134), .ref (G.1 b1), .int v2] w r w1 :=
  ra_entryV (own := RX6) (by decide) rfl (Nat.le_of_ble_eq_true rfl) hj (fun Z hl hG C hQ hr => by subst hl; subst hG; exact (tX6_takesOver C hQ hr k b1 h1 k).1 _ _ _ _ _ h)
theorem ysX6_takesOver : ra_YV yX6_takesOver cX6_takesOver 5 none 2 RX6 := ⟨⟨wd_7, wd_787, by decide, by decide, by decide⟩, wd_786, wp_41⟩
/-- TrunkRadioModel.serves -/
def fX6_serves (k : Nat) (b1 : Nat) : Nat → Nat → Int32 → Int32 → ra_W → Option (Int32 × ra_W)
  | 0, _, _, _, _ => none
  | n + 1, L, v2, v4, w => match L with
    | 0 => if ra_in (5 + v2) 19 then ra_bind (FX6_talkerOf k b1 (w 136 (ra_ix (5 + v2))) w) (fun r2 w3 => if r2 = (-9) then (fX6_serves k b1 n 1 v2 0 w3) else (if ra_in (27 + v2) 41 then if (w3 b1 (ra_ix (27 + v2))) = 0 then (some (0, w3)) else (if ra_in (27 + r2) 41 then if (w3 b1 (ra_ix (27 + r2))) = 1 then (some (0, w3)) else (ra_bind (FX6_rests k b1 r2 w3) (fun _ w11 => fX6_serves k b1 n 1 v2 0 w11)) else none) else none)) else none
    | 1 => ra_bind (FX6_neededBy k b1 v2 w) (fun r1 w2 => ra_bind (FX6_isFree k b1 r1 w2) (fun r4 w5 => if r4 = 0 then (if ra_in (27 + v2) 41 then if (w5 b1 (ra_ix (27 + v2))) = 1 then (ra_bind (FX6_takesOver k b1 r1 w5) (fun _ w11 => fX6_serves k b1 n 2 v2 r1 w11)) else (fX6_serves k b1 n 2 v2 r1 w5) else none) else (fX6_serves k b1 n 2 v2 r1 w5)))
    | _ => ra_bind (FX6_isFree k b1 v4 w) (fun r1 w2 => if r1 = 0 then (some (0, w2)) else (ra_bind (FX6_becomes k b1 v2 4 0 w2) (fun _ w6 => if ra_in (34 + v2) 41 then some (0, (ra_st (ra_st w6 b1 (ra_ix (34 + v2)) v4) b1 3 (((ra_st w6 b1 (ra_ix (34 + v2)) v4) b1 3) + 1))) else none)))
theorem fX6_serves_0 (k : Nat) (b1 : Nat) (n : Nat) (v2 : Int32) (v4 : Int32) (w : ra_W) : fX6_serves k b1 (n + 1) 0 v2 v4 w = (if ra_in (5 + v2) 19 then ra_bind (FX6_talkerOf k b1 (w 136 (ra_ix (5 + v2))) w) (fun r2 w3 => if r2 = (-9) then (fX6_serves k b1 n 1 v2 0 w3) else (if ra_in (27 + v2) 41 then if (w3 b1 (ra_ix (27 + v2))) = 0 then (some (0, w3)) else (if ra_in (27 + r2) 41 then if (w3 b1 (ra_ix (27 + r2))) = 1 then (some (0, w3)) else (ra_bind (FX6_rests k b1 r2 w3) (fun _ w11 => fX6_serves k b1 n 1 v2 0 w11)) else none) else none)) else none) := rfl
theorem fX6_serves_1 (k : Nat) (b1 : Nat) (n : Nat) (v2 : Int32) (v4 : Int32) (w : ra_W) : fX6_serves k b1 (n + 1) 1 v2 v4 w = (ra_bind (FX6_neededBy k b1 v2 w) (fun r1 w2 => ra_bind (FX6_isFree k b1 r1 w2) (fun r4 w5 => if r4 = 0 then (if ra_in (27 + v2) 41 then if (w5 b1 (ra_ix (27 + v2))) = 1 then (ra_bind (FX6_takesOver k b1 r1 w5) (fun _ w11 => fX6_serves k b1 n 2 v2 r1 w11)) else (fX6_serves k b1 n 2 v2 r1 w5) else none) else (fX6_serves k b1 n 2 v2 r1 w5)))) := rfl
theorem fX6_serves_2 (k : Nat) (b1 : Nat) (n : Nat) (v2 : Int32) (v4 : Int32) (w : ra_W) : fX6_serves k b1 (n + 1) 2 v2 v4 w = (ra_bind (FX6_isFree k b1 v4 w) (fun r1 w2 => if r1 = 0 then (some (0, w2)) else (ra_bind (FX6_becomes k b1 v2 4 0 w2) (fun _ w6 => if ra_in (34 + v2) 41 then some (0, (ra_st (ra_st w6 b1 (ra_ix (34 + v2)) v4) b1 3 (((ra_st w6 b1 (ra_ix (34 + v2)) v4) b1 3) + 1))) else none)))) := rfl
def FX6_serves (k : Nat) (b1 : Nat) (v2 : Int32) (w : ra_W) : Option (Int32 × ra_W) := fX6_serves k b1 k 0 v2 0 w
def pX6_serves_0 (Z : ra_Z) (r : Int32) (w1 : ra_W) (k : Nat) (b1 : Nat) (n : Nat) : Prop := ∀ (v2 : Int32) (v4 : Int32) (w : ra_W), fX6_serves k b1 n 0 v2 v4 w = some (r, w1) → ra_J Z 5 0 [(0, .ref ((zG Z).1 134)), (1, .ref ((zG Z).1 b1)), (2, .int v2)] [] w
def pX6_serves_1 (Z : ra_Z) (r : Int32) (w1 : ra_W) (k : Nat) (b1 : Nat) (n : Nat) : Prop := ∀ (v2 : Int32) (v4 : Int32) (w : ra_W), fX6_serves k b1 n 1 v2 v4 w = some (r, w1) → ra_J Z 5 45 [(0, .ref ((zG Z).1 134)), (1, .ref ((zG Z).1 b1)), (2, .int v2)] [] w
def pX6_serves_2 (Z : ra_Z) (r : Int32) (w1 : ra_W) (k : Nat) (b1 : Nat) (n : Nat) : Prop := ∀ (v2 : Int32) (v4 : Int32) (w : ra_W), fX6_serves k b1 n 2 v2 v4 w = some (r, w1) → ra_J Z 5 80 [(0, .ref ((zG Z).1 134)), (1, .ref ((zG Z).1 b1)), (2, .int v2), (4, .int v4)] [] w
set_option maxHeartbeats 4000000 in
theorem tX6_serves_0 {Z : ra_Z} {r : Int32} {w1 : ra_W} (C : ra_C Z cX6_serves 5 RX6 3 70) (hQ : ra_QV Z r w1) (hr : (zmt Z).sig.returnType = none) (k : Nat) (b1 : Nat) (h1 : ra_kd b1 = (10, 41)) (n : Nat) (ih1 : pX6_serves_1 Z r w1 k b1 n) : pX6_serves_0 Z r w1 k b1 (n + 1) := by
  intro v2 v4 w hf
  rw [fX6_serves_0] at hf
  refine rg_aload_n (pc := 0) C 0 rfl rfl dX6_serves_0 ?_
  refine rg_aload_n (pc := 1) C 1 rfl rfl dX6_serves_1 ?_
  refine rg_aload_n (pc := 2) C 0 rfl rfl dX6_serves_2 ?_
  refine rg_get (pc := 3) C 134 6 9 kd_134 (by decide) rfl inlX6 (by decide) wd_605 rfl dX6_serves_3 ?_
  refine rg_iconst (pc := 6) (v := 5) C dX6_serves_6 (by decide) ?_
  refine rg_iload_n (pc := 7) C 2 rfl rfl dX6_serves_7 ?_
  refine rg_iadd (pc := 8) C dX6_serves_8 ?_
  obtain ⟨g1, hf⟩ := ra_gd hf
  refine rg_iald (pc := 9) (j := (ra_ix (5 + v2))) C 136 kd_136 rfl g1 dX6_serves_9 ?_
  obtain ⟨r2, w3, e4, hf⟩ := ra_bd hf
  refine rg_callVI (pc := 10) (As := [.ref ((zG Z).1 b1), .int (w 136 (ra_ix (5 + v2)))]) (st := []) C (kX6_talkerOf (zl Z) (zG Z) C.hj k b1 h1 _ _ _ _ e4) kd_134 (by decide) rfl ysX6_talkerOf rfl wd_765 ⟨Nat.le_of_ble_eq_true rfl, Nat.le_of_ble_eq_true rfl⟩ rfl (Nat.le_of_ble_eq_true rfl) dX6_serves_10 ?_
  refine rg_istore_n (pc := 13) (lv' := [(0, .ref ((zG Z).1 134)), (1, .ref ((zG Z).1 b1)), (2, .int v2), (3, .int r2)]) C [1, 2, 3, 0] rfl rfl (by decide) dX6_serves_13 ?_
  refine rg_iload_n (pc := 14) C 3 rfl rfl dX6_serves_14 ?_
  refine rg_bipush (pc := 15) (v := (-9)) C dX6_serves_15 (by decide) ?_
  refine rg_icmp_eq (pc := 17) (tgt := 45) C dX6_serves_17 (by decide) (fun c5 => ?_) (fun c5 => ?_)
  · replace hf := ra_t hf c5
    refine rg_sub [0, 1, 2] rfl ?_
    exact ih1 _ _ _ hf
  · replace hf := ra_f hf c5
    refine rg_aload_n (pc := 20) C 1 rfl rfl dX6_serves_20 ?_
    refine rg_bipush (pc := 21) (v := 27) C dX6_serves_21 (by decide) ?_
    refine rg_iload_n (pc := 23) C 2 rfl rfl dX6_serves_23 ?_
    refine rg_iadd (pc := 24) C dX6_serves_24 ?_
    obtain ⟨g6, hf⟩ := ra_gd hf
    refine rg_iald (pc := 25) (j := (ra_ix (27 + v2))) C b1 h1 rfl g6 dX6_serves_25 ?_
    refine rg_if_eq (pc := 26) (tgt := 39) C dX6_serves_26 (by decide) (fun c7 => ?_) (fun c7 => ?_)
    · replace hf := ra_t hf c7
      exact rg_vret (pc := 39) C hQ hr hf dX6_serves_39
    · replace hf := ra_f hf c7
      refine rg_aload_n (pc := 29) C 1 rfl rfl dX6_serves_29 ?_
      refine rg_bipush (pc := 30) (v := 27) C dX6_serves_30 (by decide) ?_
      refine rg_iload_n (pc := 32) C 3 rfl rfl dX6_serves_32 ?_
      refine rg_iadd (pc := 33) C dX6_serves_33 ?_
      obtain ⟨g8, hf⟩ := ra_gd hf
      refine rg_iald (pc := 34) (j := (ra_ix (27 + r2))) C b1 h1 rfl g8 dX6_serves_34 ?_
      refine rg_iconst (pc := 35) (v := 1) C dX6_serves_35 (by decide) ?_
      refine rg_icmp_ne (pc := 36) (tgt := 40) C dX6_serves_36 (by decide) (fun c9 => ?_) (fun c9 => ?_)
      · replace hf := ra_f hf c9
        refine rg_aload_n (pc := 40) C 1 rfl rfl dX6_serves_40 ?_
        refine rg_iload_n (pc := 41) C 3 rfl rfl dX6_serves_41 ?_
        obtain ⟨r10, w11, e12, hf⟩ := ra_bd hf
        refine rg_callSV (pc := 42) (As := [.ref ((zG Z).1 b1), .int r2]) (st := []) C (kX6_rests (zl Z) (zG Z) C.hj k b1 h1 _ _ _ _ e12) ysX6_rests rfl wd_750 ⟨Nat.le_of_ble_eq_true rfl, Nat.le_of_ble_eq_true rfl⟩ rfl (Nat.le_of_ble_eq_true rfl) dX6_serves_42 ?_
        refine rg_sub [0, 1, 2] rfl ?_
        exact ih1 _ _ _ hf
      · replace hf := ra_t hf c9
        exact rg_vret (pc := 39) C hQ hr hf dX6_serves_39
set_option maxHeartbeats 4000000 in
theorem tX6_serves_1 {Z : ra_Z} {r : Int32} {w1 : ra_W} (C : ra_C Z cX6_serves 5 RX6 3 70) (hQ : ra_QV Z r w1) (hr : (zmt Z).sig.returnType = none) (k : Nat) (b1 : Nat) (h1 : ra_kd b1 = (10, 41)) (n : Nat) (ih2 : pX6_serves_2 Z r w1 k b1 n) : pX6_serves_1 Z r w1 k b1 (n + 1) := by
  intro v2 v4 w hf
  rw [fX6_serves_1] at hf
  refine rg_aload_n (pc := 45) C 0 rfl rfl dX6_serves_45 ?_
  refine rg_aload_n (pc := 46) C 1 rfl rfl dX6_serves_46 ?_
  refine rg_iload_n (pc := 47) C 2 rfl rfl dX6_serves_47 ?_
  obtain ⟨r1, w2, e3, hf⟩ := ra_bd hf
  refine rg_callVI (pc := 48) (As := [.ref ((zG Z).1 b1), .int v2]) (st := []) C (kX6_neededBy (zl Z) (zG Z) C.hj k b1 h1 _ _ _ _ e3) kd_134 (by decide) rfl ysX6_neededBy rfl wd_769 ⟨Nat.le_of_ble_eq_true rfl, Nat.le_of_ble_eq_true rfl⟩ rfl (Nat.le_of_ble_eq_true rfl) dX6_serves_48 ?_
  refine rg_istore (pc := 51) (lv' := [(0, .ref ((zG Z).1 134)), (1, .ref ((zG Z).1 b1)), (2, .int v2), (4, .int r1)]) C [1, 2, 3, 0] rfl (by decide) dX6_serves_51 ?_
  refine rg_aload_n (pc := 53) C 0 rfl rfl dX6_serves_53 ?_
  refine rg_aload_n (pc := 54) C 1 rfl rfl dX6_serves_54 ?_
  refine rg_iload (pc := 55) C 3 rfl dX6_serves_55 ?_
  obtain ⟨r4, w5, e6, hf⟩ := ra_bd hf
  refine rg_callVI (pc := 57) (As := [.ref ((zG Z).1 b1), .int r1]) (st := []) C (kX6_isFree (zl Z) (zG Z) C.hj k b1 h1 _ _ _ _ e6) kd_134 (by decide) rfl ysX6_isFree rfl wd_773 ⟨Nat.le_of_ble_eq_true rfl, Nat.le_of_ble_eq_true rfl⟩ rfl (Nat.le_of_ble_eq_true rfl) dX6_serves_57 ?_
  refine rg_if_ne (pc := 60) (tgt := 80) C dX6_serves_60 (by decide) (fun c7 => ?_) (fun c7 => ?_)
  · replace hf := ra_f hf c7
    exact ih2 _ _ _ hf
  · replace hf := ra_t hf c7
    refine rg_aload_n (pc := 63) C 1 rfl rfl dX6_serves_63 ?_
    refine rg_bipush (pc := 64) (v := 27) C dX6_serves_64 (by decide) ?_
    refine rg_iload_n (pc := 66) C 2 rfl rfl dX6_serves_66 ?_
    refine rg_iadd (pc := 67) C dX6_serves_67 ?_
    obtain ⟨g8, hf⟩ := ra_gd hf
    refine rg_iald (pc := 68) (j := (ra_ix (27 + v2))) C b1 h1 rfl g8 dX6_serves_68 ?_
    refine rg_iconst (pc := 69) (v := 1) C dX6_serves_69 (by decide) ?_
    refine rg_icmp_ne (pc := 70) (tgt := 80) C dX6_serves_70 (by decide) (fun c9 => ?_) (fun c9 => ?_)
    · replace hf := ra_f hf c9
      exact ih2 _ _ _ hf
    · replace hf := ra_t hf c9
      refine rg_aload_n (pc := 73) C 0 rfl rfl dX6_serves_73 ?_
      refine rg_aload_n (pc := 74) C 1 rfl rfl dX6_serves_74 ?_
      refine rg_iload (pc := 75) C 3 rfl dX6_serves_75 ?_
      obtain ⟨r10, w11, e12, hf⟩ := ra_bd hf
      refine rg_callVV (pc := 77) (As := [.ref ((zG Z).1 b1), .int r1]) (st := []) C (kX6_takesOver (zl Z) (zG Z) C.hj k b1 h1 _ _ _ _ e12) kd_134 (by decide) rfl ysX6_takesOver rfl wd_784 ⟨Nat.le_of_ble_eq_true rfl, Nat.le_of_ble_eq_true rfl⟩ rfl (Nat.le_of_ble_eq_true rfl) dX6_serves_77 ?_
      exact ih2 _ _ _ hf
set_option maxHeartbeats 4000000 in
theorem tX6_serves_2 {Z : ra_Z} {r : Int32} {w1 : ra_W} (C : ra_C Z cX6_serves 5 RX6 3 70) (hQ : ra_QV Z r w1) (hr : (zmt Z).sig.returnType = none) (k : Nat) (b1 : Nat) (h1 : ra_kd b1 = (10, 41)) (n : Nat) : pX6_serves_2 Z r w1 k b1 (n + 1) := by
  intro v2 v4 w hf
  rw [fX6_serves_2] at hf
  refine rg_aload_n (pc := 80) C 0 rfl rfl dX6_serves_80 ?_
  refine rg_aload_n (pc := 81) C 1 rfl rfl dX6_serves_81 ?_
  refine rg_iload (pc := 82) C 3 rfl dX6_serves_82 ?_
  obtain ⟨r1, w2, e3, hf⟩ := ra_bd hf
  refine rg_callVI (pc := 84) (As := [.ref ((zG Z).1 b1), .int v4]) (st := []) C (kX6_isFree (zl Z) (zG Z) C.hj k b1 h1 _ _ _ _ e3) kd_134 (by decide) rfl ysX6_isFree rfl wd_773 ⟨Nat.le_of_ble_eq_true rfl, Nat.le_of_ble_eq_true rfl⟩ rfl (Nat.le_of_ble_eq_true rfl) dX6_serves_84 ?_
  refine rg_if_eq (pc := 87) (tgt := 112) C dX6_serves_87 (by decide) (fun c4 => ?_) (fun c4 => ?_)
  · replace hf := ra_t hf c4
    exact rg_vret (pc := 112) C hQ hr hf dX6_serves_112
  · replace hf := ra_f hf c4
    refine rg_aload_n (pc := 90) C 1 rfl rfl dX6_serves_90 ?_
    refine rg_iload_n (pc := 91) C 2 rfl rfl dX6_serves_91 ?_
    refine rg_iconst (pc := 92) (v := 4) C dX6_serves_92 (by decide) ?_
    refine rg_iconst (pc := 93) (v := 0) C dX6_serves_93 (by decide) ?_
    obtain ⟨r5, w6, e7, hf⟩ := ra_bd hf
    refine rg_callSV (pc := 94) (As := [.ref ((zG Z).1 b1), .int v2, .int 4, .int 0]) (st := []) C (kX6_becomes (zl Z) (zG Z) C.hj k b1 h1 _ _ _ _ _ _ e7) ysX6_becomes rfl wd_743 ⟨Nat.le_of_ble_eq_true rfl, Nat.le_of_ble_eq_true rfl⟩ rfl (Nat.le_of_ble_eq_true rfl) dX6_serves_94 ?_
    refine rg_aload_n (pc := 97) C 1 rfl rfl dX6_serves_97 ?_
    refine rg_bipush (pc := 98) (v := 34) C dX6_serves_98 (by decide) ?_
    refine rg_iload_n (pc := 100) C 2 rfl rfl dX6_serves_100 ?_
    refine rg_iadd (pc := 101) C dX6_serves_101 ?_
    refine rg_iload (pc := 102) C 3 rfl dX6_serves_102 ?_
    obtain ⟨g8, hf⟩ := ra_gd hf
    refine rg_iast (pc := 104) (j := (ra_ix (34 + v2))) C b1 h1 rfl g8 dX6_serves_104 ?_
    refine rg_aload_n (pc := 105) C 1 rfl rfl dX6_serves_105 ?_
    refine rg_iconst (pc := 106) (v := 3) C dX6_serves_106 (by decide) ?_
    refine rg_dup2 (pc := 107) C rfl rfl dX6_serves_107 ?_
    refine rg_iald (pc := 108) (j := 3) C b1 h1 (by decide) (by decide) dX6_serves_108 ?_
    refine rg_iconst (pc := 109) (v := 1) C dX6_serves_109 (by decide) ?_
    refine rg_iadd (pc := 110) C dX6_serves_110 ?_
    refine rg_iast (pc := 111) (j := 3) C b1 h1 (by decide) (by decide) dX6_serves_111 ?_
    exact rg_vret (pc := 112) C hQ hr hf dX6_serves_112
theorem tX6_serves {Z : ra_Z} {r : Int32} {w1 : ra_W} (C : ra_C Z cX6_serves 5 RX6 3 70) (hQ : ra_QV Z r w1) (hr : (zmt Z).sig.returnType = none) (k : Nat) (b1 : Nat) (h1 : ra_kd b1 = (10, 41)) : ∀ n : Nat, pX6_serves_0 Z r w1 k b1 n ∧ pX6_serves_1 Z r w1 k b1 n ∧ pX6_serves_2 Z r w1 k b1 n := by
  intro n
  induction n with
  | zero => exact ⟨(fun _ _ _ h => by cases h), (fun _ _ _ h => by cases h), (fun _ _ _ h => by cases h)⟩
  | succ n ih =>
    obtain ⟨ih0, ih1, ih2⟩ := ih
    exact ⟨tX6_serves_0 C hQ hr k b1 h1 n ih1, tX6_serves_1 C hQ hr k b1 h1 n ih2, tX6_serves_2 C hQ hr k b1 h1 n⟩
theorem kX6_serves (l : Launch) (G : ra_G) (hj : ra_inj G) (k : Nat) (b1 : Nat) (h1 : ra_kd b1 = (10, 41)) (v2 : Int32) (w : ra_W) (r : Int32) (w1 : ra_W) (h : FX6_serves k b1 v2 w = some (r, w1)) : ra_MV l G yX6_serves cX6_serves 5 none 3 70 [.ref (G.1 134), .ref (G.1 b1), .int v2] w r w1 :=
  ra_entryV (own := RX6) (by decide) rfl (Nat.le_of_ble_eq_true rfl) hj (fun Z hl hG C hQ hr => by subst hl; subst hG; exact (tX6_serves C hQ hr k b1 h1 k).1 _ _ _ h)
theorem ysX6_serves : ra_YV yX6_serves cX6_serves 5 none 2 RX6 := ⟨⟨wd_7, wd_764, by decide, by decide, by decide⟩, wd_763, wp_36⟩
/-- TrunkRadioModel.goes -/
def fX6_goes (k : Nat) (b1 : Nat) : Nat → Nat → Int32 → Int32 → Int32 → Int32 → ra_W → Option (Int32 × ra_W)
  | 0, _, _, _, _, _, _ => none
  | n + 1, L, v2, s0, s1, s2, w => match L with
    | 0 => fX6_goes k b1 n 1 0 0 0 0 w
    | 1 => if (w 136 0) ≤ v2 then (fX6_goes k b1 n 2 0 0 0 0 w) else (if ra_in (13 + v2) 41 then if ra_in v2 7 then fX6_goes k b1 n 1 (v2 + 1) 0 0 0 (ra_st w 147 (ra_ix v2) (w b1 (ra_ix (13 + v2)))) else none else none)
    | 2 => if 2 ≤ v2 then (fX6_goes k b1 n 6 0 0 0 0 w) else (if ra_in (0 + v2) 41 then if (w b1 (ra_ix (0 + v2))) < 0 then (fX6_goes k b1 n 3 v2 (w b1 (ra_ix (0 + v2))) (0 + v2) 0 w) else (if 99 ≤ (w b1 (ra_ix (0 + v2))) then (fX6_goes k b1 n 3 v2 (w b1 (ra_ix (0 + v2))) (0 + v2) 0 w) else (fX6_goes k b1 n 4 v2 1 (w b1 (ra_ix (0 + v2))) (0 + v2) w)) else none)
    | 3 => fX6_goes k b1 n 4 v2 0 s0 s1 w
    | 4 => if ra_in s2 41 then if ra_in (0 + v2) 41 then if 0 ≤ ((ra_st w b1 (ra_ix s2) (s1 + s0)) b1 (ra_ix (0 + v2))) then (if ((ra_st w b1 (ra_ix s2) (s1 + s0)) b1 (ra_ix (0 + v2))) ≤ 1 then (fX6_goes k b1 n 5 v2 0 0 0 (ra_st w b1 (ra_ix s2) (s1 + s0))) else (ra_bind (FX6_helpsItself k b1 v2 (ra_st w b1 (ra_ix s2) (s1 + s0))) (fun _ w6 => fX6_goes k b1 n 5 v2 0 0 0 w6))) else (ra_bind (FX6_controls2 k b1 v2 (ra_st w b1 (ra_ix s2) (s1 + s0))) (fun _ w9 => fX6_goes k b1 n 5 v2 0 0 0 w9)) else none else none
    | 5 => fX6_goes k b1 n 2 (v2 + 1) 0 0 0 w
    | 6 => if (w 136 0) ≤ v2 then (ra_bind (FX6_lines k b1 w) (fun _ w3 => fX6_goes k b1 n 11 0 0 0 0 w3)) else (if ra_in v2 7 then if (w 147 (ra_ix v2)) = 2 then (if ra_in (20 + v2) 41 then if ((ra_st w b1 (ra_ix (20 + v2)) ((w b1 (ra_ix (20 + v2))) - 1)) b1 (ra_ix (20 + v2))) = 0 then (fX6_goes k b1 n 7 v2 1 (13 + v2) 0 (ra_st w b1 (ra_ix (20 + v2)) ((w b1 (ra_ix (20 + v2))) - 1))) else (fX6_goes k b1 n 7 v2 2 (13 + v2) 0 (ra_st w b1 (ra_ix (20 + v2)) ((w b1 (ra_ix (20 + v2))) - 1))) else none) else (fX6_goes k b1 n 8 v2 0 0 0 w) else none)
    | 7 => if ra_in s1 41 then fX6_goes k b1 n 8 v2 0 0 0 (ra_st w b1 (ra_ix s1) s0) else none
    | 8 => if ra_in v2 7 then if (w 147 (ra_ix v2)) = 4 then (fX6_goes k b1 n 9 v2 0 0 0 w) else (if (w 147 (ra_ix v2)) = 5 then (fX6_goes k b1 n 9 v2 0 0 0 w) else (fX6_goes k b1 n 10 v2 0 0 0 w)) else none
    | 9 => if ra_in (20 + v2) 41 then if ((ra_st w b1 (ra_ix (20 + v2)) ((w b1 (ra_ix (20 + v2))) + 1)) b1 (ra_ix (20 + v2))) = ((ra_st w b1 (ra_ix (20 + v2)) ((w b1 (ra_ix (20 + v2))) + 1)) 136 1) then (ra_bind (FX6_rests k b1 v2 (ra_st w b1 (ra_ix (20 + v2)) ((w b1 (ra_ix (20 + v2))) + 1))) (fun _ w4 => fX6_goes k b1 n 10 v2 0 0 0 (ra_st w4 b1 4 ((w4 b1 4) + 1)))) else (fX6_goes k b1 n 10 v2 0 0 0 (ra_st w b1 (ra_ix (20 + v2)) ((w b1 (ra_ix (20 + v2))) + 1))) else none
    | 10 => fX6_goes k b1 n 6 (v2 + 1) 0 0 0 w
    | 11 => if (w 134 22) ≤ v2 then (fX6_goes k b1 n 12 0 0 0 0 w) else (if ra_in v2 7 then ra_bind (FX6_serves k b1 (w 146 (ra_ix v2)) w) (fun _ w4 => fX6_goes k b1 n 11 (v2 + 1) 0 0 0 w4) else none)
    | 12 => if (w 136 0) ≤ v2 then (some (0, (ra_st w b1 2 ((w b1 2) + 1)))) else (if ra_in (13 + v2) 41 then if (w b1 (ra_ix (13 + v2))) = 3 then (if ra_in (20 + v2) 41 then if ((ra_st w b1 (ra_ix (20 + v2)) ((w b1 (ra_ix (20 + v2))) + 1)) b1 (ra_ix (20 + v2))) ≤ ((ra_st w b1 (ra_ix (20 + v2)) ((w b1 (ra_ix (20 + v2))) + 1)) 136 2) then (fX6_goes k b1 n 13 v2 0 0 0 (ra_st w b1 (ra_ix (20 + v2)) ((w b1 (ra_ix (20 + v2))) + 1))) else (ra_bind (FX6_rests k b1 v2 (ra_st w b1 (ra_ix (20 + v2)) ((w b1 (ra_ix (20 + v2))) + 1))) (fun _ w7 => fX6_goes k b1 n 13 v2 0 0 0 (ra_st w7 b1 5 ((w7 b1 5) + 1)))) else none) else (fX6_goes k b1 n 13 v2 0 0 0 w) else none)
    | _ => fX6_goes k b1 n 12 (v2 + 1) 0 0 0 w
theorem fX6_goes_0 (k : Nat) (b1 : Nat) (n : Nat) (v2 : Int32) (s0 : Int32) (s1 : Int32) (s2 : Int32) (w : ra_W) : fX6_goes k b1 (n + 1) 0 v2 s0 s1 s2 w = (fX6_goes k b1 n 1 0 0 0 0 w) := rfl
theorem fX6_goes_1 (k : Nat) (b1 : Nat) (n : Nat) (v2 : Int32) (s0 : Int32) (s1 : Int32) (s2 : Int32) (w : ra_W) : fX6_goes k b1 (n + 1) 1 v2 s0 s1 s2 w = (if (w 136 0) ≤ v2 then (fX6_goes k b1 n 2 0 0 0 0 w) else (if ra_in (13 + v2) 41 then if ra_in v2 7 then fX6_goes k b1 n 1 (v2 + 1) 0 0 0 (ra_st w 147 (ra_ix v2) (w b1 (ra_ix (13 + v2)))) else none else none)) := rfl
theorem fX6_goes_2 (k : Nat) (b1 : Nat) (n : Nat) (v2 : Int32) (s0 : Int32) (s1 : Int32) (s2 : Int32) (w : ra_W) : fX6_goes k b1 (n + 1) 2 v2 s0 s1 s2 w = (if 2 ≤ v2 then (fX6_goes k b1 n 6 0 0 0 0 w) else (if ra_in (0 + v2) 41 then if (w b1 (ra_ix (0 + v2))) < 0 then (fX6_goes k b1 n 3 v2 (w b1 (ra_ix (0 + v2))) (0 + v2) 0 w) else (if 99 ≤ (w b1 (ra_ix (0 + v2))) then (fX6_goes k b1 n 3 v2 (w b1 (ra_ix (0 + v2))) (0 + v2) 0 w) else (fX6_goes k b1 n 4 v2 1 (w b1 (ra_ix (0 + v2))) (0 + v2) w)) else none)) := rfl
theorem fX6_goes_3 (k : Nat) (b1 : Nat) (n : Nat) (v2 : Int32) (s0 : Int32) (s1 : Int32) (s2 : Int32) (w : ra_W) : fX6_goes k b1 (n + 1) 3 v2 s0 s1 s2 w = (fX6_goes k b1 n 4 v2 0 s0 s1 w) := rfl
theorem fX6_goes_4 (k : Nat) (b1 : Nat) (n : Nat) (v2 : Int32) (s0 : Int32) (s1 : Int32) (s2 : Int32) (w : ra_W) : fX6_goes k b1 (n + 1) 4 v2 s0 s1 s2 w = (if ra_in s2 41 then if ra_in (0 + v2) 41 then if 0 ≤ ((ra_st w b1 (ra_ix s2) (s1 + s0)) b1 (ra_ix (0 + v2))) then (if ((ra_st w b1 (ra_ix s2) (s1 + s0)) b1 (ra_ix (0 + v2))) ≤ 1 then (fX6_goes k b1 n 5 v2 0 0 0 (ra_st w b1 (ra_ix s2) (s1 + s0))) else (ra_bind (FX6_helpsItself k b1 v2 (ra_st w b1 (ra_ix s2) (s1 + s0))) (fun _ w6 => fX6_goes k b1 n 5 v2 0 0 0 w6))) else (ra_bind (FX6_controls2 k b1 v2 (ra_st w b1 (ra_ix s2) (s1 + s0))) (fun _ w9 => fX6_goes k b1 n 5 v2 0 0 0 w9)) else none else none) := rfl
theorem fX6_goes_5 (k : Nat) (b1 : Nat) (n : Nat) (v2 : Int32) (s0 : Int32) (s1 : Int32) (s2 : Int32) (w : ra_W) : fX6_goes k b1 (n + 1) 5 v2 s0 s1 s2 w = (fX6_goes k b1 n 2 (v2 + 1) 0 0 0 w) := rfl
theorem fX6_goes_6 (k : Nat) (b1 : Nat) (n : Nat) (v2 : Int32) (s0 : Int32) (s1 : Int32) (s2 : Int32) (w : ra_W) : fX6_goes k b1 (n + 1) 6 v2 s0 s1 s2 w = (if (w 136 0) ≤ v2 then (ra_bind (FX6_lines k b1 w) (fun _ w3 => fX6_goes k b1 n 11 0 0 0 0 w3)) else (if ra_in v2 7 then if (w 147 (ra_ix v2)) = 2 then (if ra_in (20 + v2) 41 then if ((ra_st w b1 (ra_ix (20 + v2)) ((w b1 (ra_ix (20 + v2))) - 1)) b1 (ra_ix (20 + v2))) = 0 then (fX6_goes k b1 n 7 v2 1 (13 + v2) 0 (ra_st w b1 (ra_ix (20 + v2)) ((w b1 (ra_ix (20 + v2))) - 1))) else (fX6_goes k b1 n 7 v2 2 (13 + v2) 0 (ra_st w b1 (ra_ix (20 + v2)) ((w b1 (ra_ix (20 + v2))) - 1))) else none) else (fX6_goes k b1 n 8 v2 0 0 0 w) else none)) := rfl
theorem fX6_goes_7 (k : Nat) (b1 : Nat) (n : Nat) (v2 : Int32) (s0 : Int32) (s1 : Int32) (s2 : Int32) (w : ra_W) : fX6_goes k b1 (n + 1) 7 v2 s0 s1 s2 w = (if ra_in s1 41 then fX6_goes k b1 n 8 v2 0 0 0 (ra_st w b1 (ra_ix s1) s0) else none) := rfl
theorem fX6_goes_8 (k : Nat) (b1 : Nat) (n : Nat) (v2 : Int32) (s0 : Int32) (s1 : Int32) (s2 : Int32) (w : ra_W) : fX6_goes k b1 (n + 1) 8 v2 s0 s1 s2 w = (if ra_in v2 7 then if (w 147 (ra_ix v2)) = 4 then (fX6_goes k b1 n 9 v2 0 0 0 w) else (if (w 147 (ra_ix v2)) = 5 then (fX6_goes k b1 n 9 v2 0 0 0 w) else (fX6_goes k b1 n 10 v2 0 0 0 w)) else none) := rfl
theorem fX6_goes_9 (k : Nat) (b1 : Nat) (n : Nat) (v2 : Int32) (s0 : Int32) (s1 : Int32) (s2 : Int32) (w : ra_W) : fX6_goes k b1 (n + 1) 9 v2 s0 s1 s2 w = (if ra_in (20 + v2) 41 then if ((ra_st w b1 (ra_ix (20 + v2)) ((w b1 (ra_ix (20 + v2))) + 1)) b1 (ra_ix (20 + v2))) = ((ra_st w b1 (ra_ix (20 + v2)) ((w b1 (ra_ix (20 + v2))) + 1)) 136 1) then (ra_bind (FX6_rests k b1 v2 (ra_st w b1 (ra_ix (20 + v2)) ((w b1 (ra_ix (20 + v2))) + 1))) (fun _ w4 => fX6_goes k b1 n 10 v2 0 0 0 (ra_st w4 b1 4 ((w4 b1 4) + 1)))) else (fX6_goes k b1 n 10 v2 0 0 0 (ra_st w b1 (ra_ix (20 + v2)) ((w b1 (ra_ix (20 + v2))) + 1))) else none) := rfl
theorem fX6_goes_10 (k : Nat) (b1 : Nat) (n : Nat) (v2 : Int32) (s0 : Int32) (s1 : Int32) (s2 : Int32) (w : ra_W) : fX6_goes k b1 (n + 1) 10 v2 s0 s1 s2 w = (fX6_goes k b1 n 6 (v2 + 1) 0 0 0 w) := rfl
theorem fX6_goes_11 (k : Nat) (b1 : Nat) (n : Nat) (v2 : Int32) (s0 : Int32) (s1 : Int32) (s2 : Int32) (w : ra_W) : fX6_goes k b1 (n + 1) 11 v2 s0 s1 s2 w = (if (w 134 22) ≤ v2 then (fX6_goes k b1 n 12 0 0 0 0 w) else (if ra_in v2 7 then ra_bind (FX6_serves k b1 (w 146 (ra_ix v2)) w) (fun _ w4 => fX6_goes k b1 n 11 (v2 + 1) 0 0 0 w4) else none)) := rfl
theorem fX6_goes_12 (k : Nat) (b1 : Nat) (n : Nat) (v2 : Int32) (s0 : Int32) (s1 : Int32) (s2 : Int32) (w : ra_W) : fX6_goes k b1 (n + 1) 12 v2 s0 s1 s2 w = (if (w 136 0) ≤ v2 then (some (0, (ra_st w b1 2 ((w b1 2) + 1)))) else (if ra_in (13 + v2) 41 then if (w b1 (ra_ix (13 + v2))) = 3 then (if ra_in (20 + v2) 41 then if ((ra_st w b1 (ra_ix (20 + v2)) ((w b1 (ra_ix (20 + v2))) + 1)) b1 (ra_ix (20 + v2))) ≤ ((ra_st w b1 (ra_ix (20 + v2)) ((w b1 (ra_ix (20 + v2))) + 1)) 136 2) then (fX6_goes k b1 n 13 v2 0 0 0 (ra_st w b1 (ra_ix (20 + v2)) ((w b1 (ra_ix (20 + v2))) + 1))) else (ra_bind (FX6_rests k b1 v2 (ra_st w b1 (ra_ix (20 + v2)) ((w b1 (ra_ix (20 + v2))) + 1))) (fun _ w7 => fX6_goes k b1 n 13 v2 0 0 0 (ra_st w7 b1 5 ((w7 b1 5) + 1)))) else none) else (fX6_goes k b1 n 13 v2 0 0 0 w) else none)) := rfl
theorem fX6_goes_13 (k : Nat) (b1 : Nat) (n : Nat) (v2 : Int32) (s0 : Int32) (s1 : Int32) (s2 : Int32) (w : ra_W) : fX6_goes k b1 (n + 1) 13 v2 s0 s1 s2 w = (fX6_goes k b1 n 12 (v2 + 1) 0 0 0 w) := rfl
def FX6_goes (k : Nat) (b1 : Nat)  (w : ra_W) : Option (Int32 × ra_W) := fX6_goes k b1 k 0 0 0 0 0 w
def pX6_goes_0 (Z : ra_Z) (r : Int32) (w1 : ra_W) (k : Nat) (b1 : Nat) (n : Nat) : Prop := ∀ (v2 : Int32) (s0 : Int32) (s1 : Int32) (s2 : Int32) (w : ra_W), fX6_goes k b1 n 0 v2 s0 s1 s2 w = some (r, w1) → ra_J Z 3 0 [(0, .ref ((zG Z).1 134)), (1, .ref ((zG Z).1 b1))] [] w
def pX6_goes_1 (Z : ra_Z) (r : Int32) (w1 : ra_W) (k : Nat) (b1 : Nat) (n : Nat) : Prop := ∀ (v2 : Int32) (s0 : Int32) (s1 : Int32) (s2 : Int32) (w : ra_W), fX6_goes k b1 n 1 v2 s0 s1 s2 w = some (r, w1) → ra_J Z 3 2 [(0, .ref ((zG Z).1 134)), (1, .ref ((zG Z).1 b1)), (2, .int v2)] [] w
def pX6_goes_2 (Z : ra_Z) (r : Int32) (w1 : ra_W) (k : Nat) (b1 : Nat) (n : Nat) : Prop := ∀ (v2 : Int32) (s0 : Int32) (s1 : Int32) (s2 : Int32) (w : ra_W), fX6_goes k b1 n 2 v2 s0 s1 s2 w = some (r, w1) → ra_J Z 3 32 [(0, .ref ((zG Z).1 134)), (1, .ref ((zG Z).1 b1)), (2, .int v2)] [] w
def pX6_goes_3 (Z : ra_Z) (r : Int32) (w1 : ra_W) (k : Nat) (b1 : Nat) (n : Nat) : Prop := ∀ (v2 : Int32) (s0 : Int32) (s1 : Int32) (s2 : Int32) (w : ra_W), fX6_goes k b1 n 3 v2 s0 s1 s2 w = some (r, w1) → ra_J Z 3 65 [(0, .ref ((zG Z).1 134)), (1, .ref ((zG Z).1 b1)), (2, .int v2)] [.int s0, .int s1, .ref ((zG Z).1 b1)] w
def pX6_goes_4 (Z : ra_Z) (r : Int32) (w1 : ra_W) (k : Nat) (b1 : Nat) (n : Nat) : Prop := ∀ (v2 : Int32) (s0 : Int32) (s1 : Int32) (s2 : Int32) (w : ra_W), fX6_goes k b1 n 4 v2 s0 s1 s2 w = some (r, w1) → ra_J Z 3 66 [(0, .ref ((zG Z).1 134)), (1, .ref ((zG Z).1 b1)), (2, .int v2)] [.int s0, .int s1, .int s2, .ref ((zG Z).1 b1)] w
def pX6_goes_5 (Z : ra_Z) (r : Int32) (w1 : ra_W) (k : Nat) (b1 : Nat) (n : Nat) : Prop := ∀ (v2 : Int32) (s0 : Int32) (s1 : Int32) (s2 : Int32) (w : ra_W), fX6_goes k b1 n 5 v2 s0 s1 s2 w = some (r, w1) → ra_J Z 3 100 [(0, .ref ((zG Z).1 134)), (1, .ref ((zG Z).1 b1)), (2, .int v2)] [] w
def pX6_goes_6 (Z : ra_Z) (r : Int32) (w1 : ra_W) (k : Nat) (b1 : Nat) (n : Nat) : Prop := ∀ (v2 : Int32) (s0 : Int32) (s1 : Int32) (s2 : Int32) (w : ra_W), fX6_goes k b1 n 6 v2 s0 s1 s2 w = some (r, w1) → ra_J Z 3 108 [(0, .ref ((zG Z).1 134)), (1, .ref ((zG Z).1 b1)), (2, .int v2)] [] w
def pX6_goes_7 (Z : ra_Z) (r : Int32) (w1 : ra_W) (k : Nat) (b1 : Nat) (n : Nat) : Prop := ∀ (v2 : Int32) (s0 : Int32) (s1 : Int32) (s2 : Int32) (w : ra_W), fX6_goes k b1 n 7 v2 s0 s1 s2 w = some (r, w1) → ra_J Z 3 157 [(0, .ref ((zG Z).1 134)), (1, .ref ((zG Z).1 b1)), (2, .int v2)] [.int s0, .int s1, .ref ((zG Z).1 b1)] w
def pX6_goes_8 (Z : ra_Z) (r : Int32) (w1 : ra_W) (k : Nat) (b1 : Nat) (n : Nat) : Prop := ∀ (v2 : Int32) (s0 : Int32) (s1 : Int32) (s2 : Int32) (w : ra_W), fX6_goes k b1 n 8 v2 s0 s1 s2 w = some (r, w1) → ra_J Z 3 158 [(0, .ref ((zG Z).1 134)), (1, .ref ((zG Z).1 b1)), (2, .int v2)] [] w
def pX6_goes_9 (Z : ra_Z) (r : Int32) (w1 : ra_W) (k : Nat) (b1 : Nat) (n : Nat) : Prop := ∀ (v2 : Int32) (s0 : Int32) (s1 : Int32) (s2 : Int32) (w : ra_W), fX6_goes k b1 n 9 v2 s0 s1 s2 w = some (r, w1) → ra_J Z 3 178 [(0, .ref ((zG Z).1 134)), (1, .ref ((zG Z).1 b1)), (2, .int v2)] [] w
def pX6_goes_10 (Z : ra_Z) (r : Int32) (w1 : ra_W) (k : Nat) (b1 : Nat) (n : Nat) : Prop := ∀ (v2 : Int32) (s0 : Int32) (s1 : Int32) (s2 : Int32) (w : ra_W), fX6_goes k b1 n 10 v2 s0 s1 s2 w = some (r, w1) → ra_J Z 3 215 [(0, .ref ((zG Z).1 134)), (1, .ref ((zG Z).1 b1)), (2, .int v2)] [] w
def pX6_goes_11 (Z : ra_Z) (r : Int32) (w1 : ra_W) (k : Nat) (b1 : Nat) (n : Nat) : Prop := ∀ (v2 : Int32) (s0 : Int32) (s1 : Int32) (s2 : Int32) (w : ra_W), fX6_goes k b1 n 11 v2 s0 s1 s2 w = some (r, w1) → ra_J Z 3 228 [(0, .ref ((zG Z).1 134)), (1, .ref ((zG Z).1 b1)), (2, .int v2)] [] w
def pX6_goes_12 (Z : ra_Z) (r : Int32) (w1 : ra_W) (k : Nat) (b1 : Nat) (n : Nat) : Prop := ∀ (v2 : Int32) (s0 : Int32) (s1 : Int32) (s2 : Int32) (w : ra_W), fX6_goes k b1 n 12 v2 s0 s1 s2 w = some (r, w1) → ra_J Z 3 255 [(0, .ref ((zG Z).1 134)), (1, .ref ((zG Z).1 b1)), (2, .int v2)] [] w
def pX6_goes_13 (Z : ra_Z) (r : Int32) (w1 : ra_W) (k : Nat) (b1 : Nat) (n : Nat) : Prop := ∀ (v2 : Int32) (s0 : Int32) (s1 : Int32) (s2 : Int32) (w : ra_W), fX6_goes k b1 n 13 v2 s0 s1 s2 w = some (r, w1) → ra_J Z 3 312 [(0, .ref ((zG Z).1 134)), (1, .ref ((zG Z).1 b1)), (2, .int v2)] [] w
set_option maxHeartbeats 4000000 in
theorem tX6_goes_0 {Z : ra_Z} {r : Int32} {w1 : ra_W} (C : ra_C Z cX6_goes 3 RX6 4 94) (hQ : ra_QV Z r w1) (hr : (zmt Z).sig.returnType = none) (k : Nat) (b1 : Nat) (h1 : ra_kd b1 = (10, 41)) (n : Nat) (ih1 : pX6_goes_1 Z r w1 k b1 n) : pX6_goes_0 Z r w1 k b1 (n + 1) := by
  intro v2 s0 s1 s2 w hf
  rw [fX6_goes_0] at hf
  refine rg_iconst (pc := 0) (v := 0) C dX6_goes_0 (by decide) ?_
  refine rg_istore_n (pc := 1) (lv' := [(0, .ref ((zG Z).1 134)), (1, .ref ((zG Z).1 b1)), (2, .int 0)]) C [1, 2, 0] rfl rfl (by decide) dX6_goes_1 ?_
  exact ih1 _ _ _ _ _ hf
set_option maxHeartbeats 4000000 in
theorem tX6_goes_1 {Z : ra_Z} {r : Int32} {w1 : ra_W} (C : ra_C Z cX6_goes 3 RX6 4 94) (hQ : ra_QV Z r w1) (hr : (zmt Z).sig.returnType = none) (k : Nat) (b1 : Nat) (h1 : ra_kd b1 = (10, 41)) (n : Nat) (ih1 : pX6_goes_1 Z r w1 k b1 n) (ih2 : pX6_goes_2 Z r w1 k b1 n) : pX6_goes_1 Z r w1 k b1 (n + 1) := by
  intro v2 s0 s1 s2 w hf
  rw [fX6_goes_1] at hf
  refine rg_iload_n (pc := 2) C 2 rfl rfl dX6_goes_2 ?_
  refine rg_aload_n (pc := 3) C 0 rfl rfl dX6_goes_3 ?_
  refine rg_get (pc := 4) C 134 6 9 kd_134 (by decide) rfl inlX6 (by decide) wd_605 rfl dX6_goes_4 ?_
  refine rg_iconst (pc := 7) (v := 0) C dX6_goes_7 (by decide) ?_
  refine rg_iald (pc := 8) (j := 0) C 136 kd_136 (by decide) (by decide) dX6_goes_8 ?_
  refine rg_icmp_ge (pc := 9) (tgt := 30) C dX6_goes_9 (by decide) (fun c1 => ?_) (fun c1 => ?_)
  · replace hf := ra_t hf c1
    refine rg_iconst (pc := 30) (v := 0) C dX6_goes_30 (by decide) ?_
    refine rg_istore_n (pc := 31) (lv' := [(0, .ref ((zG Z).1 134)), (1, .ref ((zG Z).1 b1)), (2, .int 0)]) C [1, 2, 0] rfl rfl (by decide) dX6_goes_31 ?_
    exact ih2 _ _ _ _ _ hf
  · replace hf := ra_f hf c1
    refine rg_aload_n (pc := 12) C 0 rfl rfl dX6_goes_12 ?_
    refine rg_get (pc := 13) C 134 6 23 kd_134 (by decide) rfl inlX6 (by decide) wd_619 rfl dX6_goes_13 ?_
    refine rg_iload_n (pc := 16) C 2 rfl rfl dX6_goes_16 ?_
    refine rg_aload_n (pc := 17) C 1 rfl rfl dX6_goes_17 ?_
    refine rg_bipush (pc := 18) (v := 13) C dX6_goes_18 (by decide) ?_
    refine rg_iload_n (pc := 20) C 2 rfl rfl dX6_goes_20 ?_
    refine rg_iadd (pc := 21) C dX6_goes_21 ?_
    obtain ⟨g2, hf⟩ := ra_gd hf
    refine rg_iald (pc := 22) (j := (ra_ix (13 + v2))) C b1 h1 rfl g2 dX6_goes_22 ?_
    obtain ⟨g3, hf⟩ := ra_gd hf
    refine rg_iast (pc := 23) (j := (ra_ix v2)) C 147 kd_147 rfl g3 dX6_goes_23 ?_
    refine rg_iinc (pc := 24) (v := (v2 + 1)) (lv' := [(0, .ref ((zG Z).1 134)), (1, .ref ((zG Z).1 b1)), (2, .int (v2 + 1))]) C 2 rfl [1, 2, 0] (ra_ii (by decide)) rfl (by decide) dX6_goes_24 ?_
    refine rg_goto (pc := 27) (tgt := 2) C dX6_goes_27 (by decide) ?_
    exact ih1 _ _ _ _ _ hf
set_option maxHeartbeats 4000000 in
theorem tX6_goes_2 {Z : ra_Z} {r : Int32} {w1 : ra_W} (C : ra_C Z cX6_goes 3 RX6 4 94) (hQ : ra_QV Z r w1) (hr : (zmt Z).sig.returnType = none) (k : Nat) (b1 : Nat) (h1 : ra_kd b1 = (10, 41)) (n : Nat) (ih3 : pX6_goes_3 Z r w1 k b1 n) (ih4 : pX6_goes_4 Z r w1 k b1 n) (ih6 : pX6_goes_6 Z r w1 k b1 n) : pX6_goes_2 Z r w1 k b1 (n + 1) := by
  intro v2 s0 s1 s2 w hf
  rw [fX6_goes_2] at hf
  refine rg_iload_n (pc := 32) C 2 rfl rfl dX6_goes_32 ?_
  refine rg_iconst (pc := 33) (v := 2) C dX6_goes_33 (by decide) ?_
  refine rg_icmp_ge (pc := 34) (tgt := 106) C dX6_goes_34 (by decide) (fun c1 => ?_) (fun c1 => ?_)
  · replace hf := ra_t hf c1
    refine rg_iconst (pc := 106) (v := 0) C dX6_goes_106 (by decide) ?_
    refine rg_istore_n (pc := 107) (lv' := [(0, .ref ((zG Z).1 134)), (1, .ref ((zG Z).1 b1)), (2, .int 0)]) C [1, 2, 0] rfl rfl (by decide) dX6_goes_107 ?_
    exact ih6 _ _ _ _ _ hf
  · replace hf := ra_f hf c1
    refine rg_aload_n (pc := 37) C 1 rfl rfl dX6_goes_37 ?_
    refine rg_iconst (pc := 38) (v := 0) C dX6_goes_38 (by decide) ?_
    refine rg_iload_n (pc := 39) C 2 rfl rfl dX6_goes_39 ?_
    refine rg_iadd (pc := 40) C dX6_goes_40 ?_
    refine rg_dup2 (pc := 41) C rfl rfl dX6_goes_41 ?_
    obtain ⟨g2, hf⟩ := ra_gd hf
    refine rg_iald (pc := 42) (j := (ra_ix (0 + v2))) C b1 h1 rfl g2 dX6_goes_42 ?_
    refine rg_aload_n (pc := 43) C 1 rfl rfl dX6_goes_43 ?_
    refine rg_iconst (pc := 44) (v := 0) C dX6_goes_44 (by decide) ?_
    refine rg_iload_n (pc := 45) C 2 rfl rfl dX6_goes_45 ?_
    refine rg_iadd (pc := 46) C dX6_goes_46 ?_
    refine rg_iald (pc := 47) (j := (ra_ix (0 + v2))) C b1 h1 rfl g2 dX6_goes_47 ?_
    refine rg_if_lt (pc := 48) (tgt := 65) C dX6_goes_48 (by decide) (fun c3 => ?_) (fun c3 => ?_)
    · replace hf := ra_t hf c3
      exact ih3 _ _ _ _ _ hf
    · replace hf := ra_f hf c3
      refine rg_aload_n (pc := 51) C 1 rfl rfl dX6_goes_51 ?_
      refine rg_iconst (pc := 52) (v := 0) C dX6_goes_52 (by decide) ?_
      refine rg_iload_n (pc := 53) C 2 rfl rfl dX6_goes_53 ?_
      refine rg_iadd (pc := 54) C dX6_goes_54 ?_
      refine rg_iald (pc := 55) (j := (ra_ix (0 + v2))) C b1 h1 rfl g2 dX6_goes_55 ?_
      refine rg_bipush (pc := 56) (v := 99) C dX6_goes_56 (by decide) ?_
      refine rg_icmp_ge (pc := 58) (tgt := 65) C dX6_goes_58 (by decide) (fun c4 => ?_) (fun c4 => ?_)
      · replace hf := ra_t hf c4
        exact ih3 _ _ _ _ _ hf
      · replace hf := ra_f hf c4
        refine rg_iconst (pc := 61) (v := 1) C dX6_goes_61 (by decide) ?_
        refine rg_goto (pc := 62) (tgt := 66) C dX6_goes_62 (by decide) ?_
        exact ih4 _ _ _ _ _ hf
set_option maxHeartbeats 4000000 in
theorem tX6_goes_3 {Z : ra_Z} {r : Int32} {w1 : ra_W} (C : ra_C Z cX6_goes 3 RX6 4 94) (hQ : ra_QV Z r w1) (hr : (zmt Z).sig.returnType = none) (k : Nat) (b1 : Nat) (h1 : ra_kd b1 = (10, 41)) (n : Nat) (ih4 : pX6_goes_4 Z r w1 k b1 n) : pX6_goes_3 Z r w1 k b1 (n + 1) := by
  intro v2 s0 s1 s2 w hf
  rw [fX6_goes_3] at hf
  refine rg_iconst (pc := 65) (v := 0) C dX6_goes_65 (by decide) ?_
  exact ih4 _ _ _ _ _ hf
set_option maxHeartbeats 4000000 in
theorem tX6_goes_4 {Z : ra_Z} {r : Int32} {w1 : ra_W} (C : ra_C Z cX6_goes 3 RX6 4 94) (hQ : ra_QV Z r w1) (hr : (zmt Z).sig.returnType = none) (k : Nat) (b1 : Nat) (h1 : ra_kd b1 = (10, 41)) (n : Nat) (ih5 : pX6_goes_5 Z r w1 k b1 n) : pX6_goes_4 Z r w1 k b1 (n + 1) := by
  intro v2 s0 s1 s2 w hf
  rw [fX6_goes_4] at hf
  refine rg_iadd (pc := 66) C dX6_goes_66 ?_
  obtain ⟨g1, hf⟩ := ra_gd hf
  refine rg_iast (pc := 67) (j := (ra_ix s2)) C b1 h1 rfl g1 dX6_goes_67 ?_
  refine rg_aload_n (pc := 68) C 1 rfl rfl dX6_goes_68 ?_
  refine rg_iconst (pc := 69) (v := 0) C dX6_goes_69 (by decide) ?_
  refine rg_iload_n (pc := 70) C 2 rfl rfl dX6_goes_70 ?_
  refine rg_iadd (pc := 71) C dX6_goes_71 ?_
  obtain ⟨g2, hf⟩ := ra_gd hf
  refine rg_iald (pc := 72) (j := (ra_ix (0 + v2))) C b1 h1 rfl g2 dX6_goes_72 ?_
  refine rg_if_ge (pc := 73) (tgt := 85) C dX6_goes_73 (by decide) (fun c3 => ?_) (fun c3 => ?_)
  · replace hf := ra_t hf c3
    refine rg_aload_n (pc := 85) C 1 rfl rfl dX6_goes_85 ?_
    refine rg_iconst (pc := 86) (v := 0) C dX6_goes_86 (by decide) ?_
    refine rg_iload_n (pc := 87) C 2 rfl rfl dX6_goes_87 ?_
    refine rg_iadd (pc := 88) C dX6_goes_88 ?_
    refine rg_iald (pc := 89) (j := (ra_ix (0 + v2))) C b1 h1 rfl g2 dX6_goes_89 ?_
    refine rg_iconst (pc := 90) (v := 1) C dX6_goes_90 (by decide) ?_
    refine rg_icmp_le (pc := 91) (tgt := 100) C dX6_goes_91 (by decide) (fun c4 => ?_) (fun c4 => ?_)
    · replace hf := ra_t hf c4
      exact ih5 _ _ _ _ _ hf
    · replace hf := ra_f hf c4
      refine rg_aload_n (pc := 94) C 0 rfl rfl dX6_goes_94 ?_
      refine rg_aload_n (pc := 95) C 1 rfl rfl dX6_goes_95 ?_
      refine rg_iload_n (pc := 96) C 2 rfl rfl dX6_goes_96 ?_
      obtain ⟨r5, w6, e7, hf⟩ := ra_bd hf
      refine rg_callVV (pc := 97) (As := [.ref ((zG Z).1 b1), .int v2]) (st := []) C (kX6_helpsItself (zl Z) (zG Z) C.hj k b1 h1 _ _ _ _ e7) kd_134 (by decide) rfl ysX6_helpsItself rfl wd_746 ⟨Nat.le_of_ble_eq_true rfl, Nat.le_of_ble_eq_true rfl⟩ rfl (Nat.le_of_ble_eq_true rfl) dX6_goes_97 ?_
      exact ih5 _ _ _ _ _ hf
  · replace hf := ra_f hf c3
    refine rg_aload_n (pc := 76) C 0 rfl rfl dX6_goes_76 ?_
    refine rg_aload_n (pc := 77) C 1 rfl rfl dX6_goes_77 ?_
    refine rg_iload_n (pc := 78) C 2 rfl rfl dX6_goes_78 ?_
    obtain ⟨r8, w9, e10, hf⟩ := ra_bd hf
    refine rg_callVV (pc := 79) (As := [.ref ((zG Z).1 b1), .int v2]) (st := []) C (kX6_controls2 (zl Z) (zG Z) C.hj k b1 h1 _ _ _ _ e10) kd_134 (by decide) rfl ysX6_controls2 rfl wd_731 ⟨Nat.le_of_ble_eq_true rfl, Nat.le_of_ble_eq_true rfl⟩ rfl (Nat.le_of_ble_eq_true rfl) dX6_goes_79 ?_
    refine rg_goto (pc := 82) (tgt := 100) C dX6_goes_82 (by decide) ?_
    exact ih5 _ _ _ _ _ hf
set_option maxHeartbeats 4000000 in
theorem tX6_goes_5 {Z : ra_Z} {r : Int32} {w1 : ra_W} (C : ra_C Z cX6_goes 3 RX6 4 94) (hQ : ra_QV Z r w1) (hr : (zmt Z).sig.returnType = none) (k : Nat) (b1 : Nat) (h1 : ra_kd b1 = (10, 41)) (n : Nat) (ih2 : pX6_goes_2 Z r w1 k b1 n) : pX6_goes_5 Z r w1 k b1 (n + 1) := by
  intro v2 s0 s1 s2 w hf
  rw [fX6_goes_5] at hf
  refine rg_iinc (pc := 100) (v := (v2 + 1)) (lv' := [(0, .ref ((zG Z).1 134)), (1, .ref ((zG Z).1 b1)), (2, .int (v2 + 1))]) C 2 rfl [1, 2, 0] (ra_ii (by decide)) rfl (by decide) dX6_goes_100 ?_
  refine rg_goto (pc := 103) (tgt := 32) C dX6_goes_103 (by decide) ?_
  exact ih2 _ _ _ _ _ hf
set_option maxHeartbeats 4000000 in
theorem tX6_goes_6 {Z : ra_Z} {r : Int32} {w1 : ra_W} (C : ra_C Z cX6_goes 3 RX6 4 94) (hQ : ra_QV Z r w1) (hr : (zmt Z).sig.returnType = none) (k : Nat) (b1 : Nat) (h1 : ra_kd b1 = (10, 41)) (n : Nat) (ih7 : pX6_goes_7 Z r w1 k b1 n) (ih8 : pX6_goes_8 Z r w1 k b1 n) (ih11 : pX6_goes_11 Z r w1 k b1 n) : pX6_goes_6 Z r w1 k b1 (n + 1) := by
  intro v2 s0 s1 s2 w hf
  rw [fX6_goes_6] at hf
  refine rg_iload_n (pc := 108) C 2 rfl rfl dX6_goes_108 ?_
  refine rg_aload_n (pc := 109) C 0 rfl rfl dX6_goes_109 ?_
  refine rg_get (pc := 110) C 134 6 9 kd_134 (by decide) rfl inlX6 (by decide) wd_605 rfl dX6_goes_110 ?_
  refine rg_iconst (pc := 113) (v := 0) C dX6_goes_113 (by decide) ?_
  refine rg_iald (pc := 114) (j := 0) C 136 kd_136 (by decide) (by decide) dX6_goes_114 ?_
  refine rg_icmp_ge (pc := 115) (tgt := 221) C dX6_goes_115 (by decide) (fun c1 => ?_) (fun c1 => ?_)
  · replace hf := ra_t hf c1
    refine rg_aload_n (pc := 221) C 0 rfl rfl dX6_goes_221 ?_
    refine rg_aload_n (pc := 222) C 1 rfl rfl dX6_goes_222 ?_
    obtain ⟨r2, w3, e4, hf⟩ := ra_bd hf
    refine rg_callVV (pc := 223) (As := [.ref ((zG Z).1 b1)]) (st := []) C (kX6_lines (zl Z) (zG Z) C.hj k b1 h1 _ _ _ e4) kd_134 (by decide) rfl ysX6_lines rfl wd_753 ⟨Nat.le_of_ble_eq_true rfl, Nat.le_of_ble_eq_true rfl⟩ rfl (Nat.le_of_ble_eq_true rfl) dX6_goes_223 ?_
    refine rg_iconst (pc := 226) (v := 0) C dX6_goes_226 (by decide) ?_
    refine rg_istore_n (pc := 227) (lv' := [(0, .ref ((zG Z).1 134)), (1, .ref ((zG Z).1 b1)), (2, .int 0)]) C [1, 2, 0] rfl rfl (by decide) dX6_goes_227 ?_
    exact ih11 _ _ _ _ _ hf
  · replace hf := ra_f hf c1
    refine rg_aload_n (pc := 118) C 0 rfl rfl dX6_goes_118 ?_
    refine rg_get (pc := 119) C 134 6 23 kd_134 (by decide) rfl inlX6 (by decide) wd_619 rfl dX6_goes_119 ?_
    refine rg_iload_n (pc := 122) C 2 rfl rfl dX6_goes_122 ?_
    obtain ⟨g5, hf⟩ := ra_gd hf
    refine rg_iald (pc := 123) (j := (ra_ix v2)) C 147 kd_147 rfl g5 dX6_goes_123 ?_
    refine rg_iconst (pc := 124) (v := 2) C dX6_goes_124 (by decide) ?_
    refine rg_icmp_ne (pc := 125) (tgt := 158) C dX6_goes_125 (by decide) (fun c6 => ?_) (fun c6 => ?_)
    · replace hf := ra_f hf c6
      exact ih8 _ _ _ _ _ hf
    · replace hf := ra_t hf c6
      refine rg_aload_n (pc := 128) C 1 rfl rfl dX6_goes_128 ?_
      refine rg_bipush (pc := 129) (v := 20) C dX6_goes_129 (by decide) ?_
      refine rg_iload_n (pc := 131) C 2 rfl rfl dX6_goes_131 ?_
      refine rg_iadd (pc := 132) C dX6_goes_132 ?_
      refine rg_dup2 (pc := 133) C rfl rfl dX6_goes_133 ?_
      obtain ⟨g7, hf⟩ := ra_gd hf
      refine rg_iald (pc := 134) (j := (ra_ix (20 + v2))) C b1 h1 rfl g7 dX6_goes_134 ?_
      refine rg_iconst (pc := 135) (v := 1) C dX6_goes_135 (by decide) ?_
      refine rg_isub (pc := 136) C dX6_goes_136 ?_
      refine rg_iast (pc := 137) (j := (ra_ix (20 + v2))) C b1 h1 rfl g7 dX6_goes_137 ?_
      refine rg_aload_n (pc := 138) C 1 rfl rfl dX6_goes_138 ?_
      refine rg_bipush (pc := 139) (v := 13) C dX6_goes_139 (by decide) ?_
      refine rg_iload_n (pc := 141) C 2 rfl rfl dX6_goes_141 ?_
      refine rg_iadd (pc := 142) C dX6_goes_142 ?_
      refine rg_aload_n (pc := 143) C 1 rfl rfl dX6_goes_143 ?_
      refine rg_bipush (pc := 144) (v := 20) C dX6_goes_144 (by decide) ?_
      refine rg_iload_n (pc := 146) C 2 rfl rfl dX6_goes_146 ?_
      refine rg_iadd (pc := 147) C dX6_goes_147 ?_
      refine rg_iald (pc := 148) (j := (ra_ix (20 + v2))) C b1 h1 rfl g7 dX6_goes_148 ?_
      refine rg_if_ne (pc := 149) (tgt := 156) C dX6_goes_149 (by decide) (fun c8 => ?_) (fun c8 => ?_)
      · replace hf := ra_f hf c8
        refine rg_iconst (pc := 156) (v := 2) C dX6_goes_156 (by decide) ?_
        exact ih7 _ _ _ _ _ hf
      · replace hf := ra_t hf c8
        refine rg_iconst (pc := 152) (v := 1) C dX6_goes_152 (by decide) ?_
        refine rg_goto (pc := 153) (tgt := 157) C dX6_goes_153 (by decide) ?_
        exact ih7 _ _ _ _ _ hf
set_option maxHeartbeats 4000000 in
theorem tX6_goes_7 {Z : ra_Z} {r : Int32} {w1 : ra_W} (C : ra_C Z cX6_goes 3 RX6 4 94) (hQ : ra_QV Z r w1) (hr : (zmt Z).sig.returnType = none) (k : Nat) (b1 : Nat) (h1 : ra_kd b1 = (10, 41)) (n : Nat) (ih8 : pX6_goes_8 Z r w1 k b1 n) : pX6_goes_7 Z r w1 k b1 (n + 1) := by
  intro v2 s0 s1 s2 w hf
  rw [fX6_goes_7] at hf
  obtain ⟨g1, hf⟩ := ra_gd hf
  refine rg_iast (pc := 157) (j := (ra_ix s1)) C b1 h1 rfl g1 dX6_goes_157 ?_
  exact ih8 _ _ _ _ _ hf
set_option maxHeartbeats 4000000 in
theorem tX6_goes_8 {Z : ra_Z} {r : Int32} {w1 : ra_W} (C : ra_C Z cX6_goes 3 RX6 4 94) (hQ : ra_QV Z r w1) (hr : (zmt Z).sig.returnType = none) (k : Nat) (b1 : Nat) (h1 : ra_kd b1 = (10, 41)) (n : Nat) (ih9 : pX6_goes_9 Z r w1 k b1 n) (ih10 : pX6_goes_10 Z r w1 k b1 n) : pX6_goes_8 Z r w1 k b1 (n + 1) := by
  intro v2 s0 s1 s2 w hf
  rw [fX6_goes_8] at hf
  refine rg_aload_n (pc := 158) C 0 rfl rfl dX6_goes_158 ?_
  refine rg_get (pc := 159) C 134 6 23 kd_134 (by decide) rfl inlX6 (by decide) wd_619 rfl dX6_goes_159 ?_
  refine rg_iload_n (pc := 162) C 2 rfl rfl dX6_goes_162 ?_
  obtain ⟨g1, hf⟩ := ra_gd hf
  refine rg_iald (pc := 163) (j := (ra_ix v2)) C 147 kd_147 rfl g1 dX6_goes_163 ?_
  refine rg_iconst (pc := 164) (v := 4) C dX6_goes_164 (by decide) ?_
  refine rg_icmp_eq (pc := 165) (tgt := 178) C dX6_goes_165 (by decide) (fun c2 => ?_) (fun c2 => ?_)
  · replace hf := ra_t hf c2
    exact ih9 _ _ _ _ _ hf
  · replace hf := ra_f hf c2
    refine rg_aload_n (pc := 168) C 0 rfl rfl dX6_goes_168 ?_
    refine rg_get (pc := 169) C 134 6 23 kd_134 (by decide) rfl inlX6 (by decide) wd_619 rfl dX6_goes_169 ?_
    refine rg_iload_n (pc := 172) C 2 rfl rfl dX6_goes_172 ?_
    refine rg_iald (pc := 173) (j := (ra_ix v2)) C 147 kd_147 rfl g1 dX6_goes_173 ?_
    refine rg_iconst (pc := 174) (v := 5) C dX6_goes_174 (by decide) ?_
    refine rg_icmp_ne (pc := 175) (tgt := 215) C dX6_goes_175 (by decide) (fun c3 => ?_) (fun c3 => ?_)
    · replace hf := ra_f hf c3
      exact ih10 _ _ _ _ _ hf
    · replace hf := ra_t hf c3
      exact ih9 _ _ _ _ _ hf
set_option maxHeartbeats 4000000 in
theorem tX6_goes_9 {Z : ra_Z} {r : Int32} {w1 : ra_W} (C : ra_C Z cX6_goes 3 RX6 4 94) (hQ : ra_QV Z r w1) (hr : (zmt Z).sig.returnType = none) (k : Nat) (b1 : Nat) (h1 : ra_kd b1 = (10, 41)) (n : Nat) (ih10 : pX6_goes_10 Z r w1 k b1 n) : pX6_goes_9 Z r w1 k b1 (n + 1) := by
  intro v2 s0 s1 s2 w hf
  rw [fX6_goes_9] at hf
  refine rg_aload_n (pc := 178) C 1 rfl rfl dX6_goes_178 ?_
  refine rg_bipush (pc := 179) (v := 20) C dX6_goes_179 (by decide) ?_
  refine rg_iload_n (pc := 181) C 2 rfl rfl dX6_goes_181 ?_
  refine rg_iadd (pc := 182) C dX6_goes_182 ?_
  refine rg_dup2 (pc := 183) C rfl rfl dX6_goes_183 ?_
  obtain ⟨g1, hf⟩ := ra_gd hf
  refine rg_iald (pc := 184) (j := (ra_ix (20 + v2))) C b1 h1 rfl g1 dX6_goes_184 ?_
  refine rg_iconst (pc := 185) (v := 1) C dX6_goes_185 (by decide) ?_
  refine rg_iadd (pc := 186) C dX6_goes_186 ?_
  refine rg_iast (pc := 187) (j := (ra_ix (20 + v2))) C b1 h1 rfl g1 dX6_goes_187 ?_
  refine rg_aload_n (pc := 188) C 1 rfl rfl dX6_goes_188 ?_
  refine rg_bipush (pc := 189) (v := 20) C dX6_goes_189 (by decide) ?_
  refine rg_iload_n (pc := 191) C 2 rfl rfl dX6_goes_191 ?_
  refine rg_iadd (pc := 192) C dX6_goes_192 ?_
  refine rg_iald (pc := 193) (j := (ra_ix (20 + v2))) C b1 h1 rfl g1 dX6_goes_193 ?_
  refine rg_aload_n (pc := 194) C 0 rfl rfl dX6_goes_194 ?_
  refine rg_get (pc := 195) C 134 6 9 kd_134 (by decide) rfl inlX6 (by decide) wd_605 rfl dX6_goes_195 ?_
  refine rg_iconst (pc := 198) (v := 1) C dX6_goes_198 (by decide) ?_
  refine rg_iald (pc := 199) (j := 1) C 136 kd_136 (by decide) (by decide) dX6_goes_199 ?_
  refine rg_icmp_ne (pc := 200) (tgt := 215) C dX6_goes_200 (by decide) (fun c2 => ?_) (fun c2 => ?_)
  · replace hf := ra_f hf c2
    exact ih10 _ _ _ _ _ hf
  · replace hf := ra_t hf c2
    refine rg_aload_n (pc := 203) C 1 rfl rfl dX6_goes_203 ?_
    refine rg_iload_n (pc := 204) C 2 rfl rfl dX6_goes_204 ?_
    obtain ⟨r3, w4, e5, hf⟩ := ra_bd hf
    refine rg_callSV (pc := 205) (As := [.ref ((zG Z).1 b1), .int v2]) (st := []) C (kX6_rests (zl Z) (zG Z) C.hj k b1 h1 _ _ _ _ e5) ysX6_rests rfl wd_750 ⟨Nat.le_of_ble_eq_true rfl, Nat.le_of_ble_eq_true rfl⟩ rfl (Nat.le_of_ble_eq_true rfl) dX6_goes_205 ?_
    refine rg_aload_n (pc := 208) C 1 rfl rfl dX6_goes_208 ?_
    refine rg_iconst (pc := 209) (v := 4) C dX6_goes_209 (by decide) ?_
    refine rg_dup2 (pc := 210) C rfl rfl dX6_goes_210 ?_
    refine rg_iald (pc := 211) (j := 4) C b1 h1 (by decide) (by decide) dX6_goes_211 ?_
    refine rg_iconst (pc := 212) (v := 1) C dX6_goes_212 (by decide) ?_
    refine rg_iadd (pc := 213) C dX6_goes_213 ?_
    refine rg_iast (pc := 214) (j := 4) C b1 h1 (by decide) (by decide) dX6_goes_214 ?_
    exact ih10 _ _ _ _ _ hf
set_option maxHeartbeats 4000000 in
theorem tX6_goes_10 {Z : ra_Z} {r : Int32} {w1 : ra_W} (C : ra_C Z cX6_goes 3 RX6 4 94) (hQ : ra_QV Z r w1) (hr : (zmt Z).sig.returnType = none) (k : Nat) (b1 : Nat) (h1 : ra_kd b1 = (10, 41)) (n : Nat) (ih6 : pX6_goes_6 Z r w1 k b1 n) : pX6_goes_10 Z r w1 k b1 (n + 1) := by
  intro v2 s0 s1 s2 w hf
  rw [fX6_goes_10] at hf
  refine rg_iinc (pc := 215) (v := (v2 + 1)) (lv' := [(0, .ref ((zG Z).1 134)), (1, .ref ((zG Z).1 b1)), (2, .int (v2 + 1))]) C 2 rfl [1, 2, 0] (ra_ii (by decide)) rfl (by decide) dX6_goes_215 ?_
  refine rg_goto (pc := 218) (tgt := 108) C dX6_goes_218 (by decide) ?_
  exact ih6 _ _ _ _ _ hf
set_option maxHeartbeats 4000000 in
theorem tX6_goes_11 {Z : ra_Z} {r : Int32} {w1 : ra_W} (C : ra_C Z cX6_goes 3 RX6 4 94) (hQ : ra_QV Z r w1) (hr : (zmt Z).sig.returnType = none) (k : Nat) (b1 : Nat) (h1 : ra_kd b1 = (10, 41)) (n : Nat) (ih11 : pX6_goes_11 Z r w1 k b1 n) (ih12 : pX6_goes_12 Z r w1 k b1 n) : pX6_goes_11 Z r w1 k b1 (n + 1) := by
  intro v2 s0 s1 s2 w hf
  rw [fX6_goes_11] at hf
  refine rg_iload_n (pc := 228) C 2 rfl rfl dX6_goes_228 ?_
  refine rg_aload_n (pc := 229) C 0 rfl rfl dX6_goes_229 ?_
  refine rg_get (pc := 230) C 134 6 22 kd_134 (by decide) rfl inlX6 (by decide) wd_618 rfl dX6_goes_230 ?_
  refine rg_icmp_ge (pc := 233) (tgt := 253) C dX6_goes_233 (by decide) (fun c1 => ?_) (fun c1 => ?_)
  · replace hf := ra_t hf c1
    refine rg_iconst (pc := 253) (v := 0) C dX6_goes_253 (by decide) ?_
    refine rg_istore_n (pc := 254) (lv' := [(0, .ref ((zG Z).1 134)), (1, .ref ((zG Z).1 b1)), (2, .int 0)]) C [1, 2, 0] rfl rfl (by decide) dX6_goes_254 ?_
    exact ih12 _ _ _ _ _ hf
  · replace hf := ra_f hf c1
    refine rg_aload_n (pc := 236) C 0 rfl rfl dX6_goes_236 ?_
    refine rg_aload_n (pc := 237) C 1 rfl rfl dX6_goes_237 ?_
    refine rg_aload_n (pc := 238) C 0 rfl rfl dX6_goes_238 ?_
    refine rg_get (pc := 239) C 134 6 21 kd_134 (by decide) rfl inlX6 (by decide) wd_617 rfl dX6_goes_239 ?_
    refine rg_iload_n (pc := 242) C 2 rfl rfl dX6_goes_242 ?_
    obtain ⟨g2, hf⟩ := ra_gd hf
    refine rg_iald (pc := 243) (j := (ra_ix v2)) C 146 kd_146 rfl g2 dX6_goes_243 ?_
    obtain ⟨r3, w4, e5, hf⟩ := ra_bd hf
    refine rg_callVV (pc := 244) (As := [.ref ((zG Z).1 b1), .int (w 146 (ra_ix v2))]) (st := []) C (kX6_serves (zl Z) (zG Z) C.hj k b1 h1 _ _ _ _ e5) kd_134 (by decide) rfl ysX6_serves rfl wd_761 ⟨Nat.le_of_ble_eq_true rfl, Nat.le_of_ble_eq_true rfl⟩ rfl (Nat.le_of_ble_eq_true rfl) dX6_goes_244 ?_
    refine rg_iinc (pc := 247) (v := (v2 + 1)) (lv' := [(0, .ref ((zG Z).1 134)), (1, .ref ((zG Z).1 b1)), (2, .int (v2 + 1))]) C 2 rfl [1, 2, 0] (ra_ii (by decide)) rfl (by decide) dX6_goes_247 ?_
    refine rg_goto (pc := 250) (tgt := 228) C dX6_goes_250 (by decide) ?_
    exact ih11 _ _ _ _ _ hf
set_option maxHeartbeats 4000000 in
theorem tX6_goes_12 {Z : ra_Z} {r : Int32} {w1 : ra_W} (C : ra_C Z cX6_goes 3 RX6 4 94) (hQ : ra_QV Z r w1) (hr : (zmt Z).sig.returnType = none) (k : Nat) (b1 : Nat) (h1 : ra_kd b1 = (10, 41)) (n : Nat) (ih13 : pX6_goes_13 Z r w1 k b1 n) : pX6_goes_12 Z r w1 k b1 (n + 1) := by
  intro v2 s0 s1 s2 w hf
  rw [fX6_goes_12] at hf
  refine rg_iload_n (pc := 255) C 2 rfl rfl dX6_goes_255 ?_
  refine rg_aload_n (pc := 256) C 0 rfl rfl dX6_goes_256 ?_
  refine rg_get (pc := 257) C 134 6 9 kd_134 (by decide) rfl inlX6 (by decide) wd_605 rfl dX6_goes_257 ?_
  refine rg_iconst (pc := 260) (v := 0) C dX6_goes_260 (by decide) ?_
  refine rg_iald (pc := 261) (j := 0) C 136 kd_136 (by decide) (by decide) dX6_goes_261 ?_
  refine rg_icmp_ge (pc := 262) (tgt := 318) C dX6_goes_262 (by decide) (fun c1 => ?_) (fun c1 => ?_)
  · replace hf := ra_t hf c1
    refine rg_aload_n (pc := 318) C 1 rfl rfl dX6_goes_318 ?_
    refine rg_iconst (pc := 319) (v := 2) C dX6_goes_319 (by decide) ?_
    refine rg_dup2 (pc := 320) C rfl rfl dX6_goes_320 ?_
    refine rg_iald (pc := 321) (j := 2) C b1 h1 (by decide) (by decide) dX6_goes_321 ?_
    refine rg_iconst (pc := 322) (v := 1) C dX6_goes_322 (by decide) ?_
    refine rg_iadd (pc := 323) C dX6_goes_323 ?_
    refine rg_iast (pc := 324) (j := 2) C b1 h1 (by decide) (by decide) dX6_goes_324 ?_
    exact rg_vret (pc := 325) C hQ hr hf dX6_goes_325
  · replace hf := ra_f hf c1
    refine rg_aload_n (pc := 265) C 1 rfl rfl dX6_goes_265 ?_
    refine rg_bipush (pc := 266) (v := 13) C dX6_goes_266 (by decide) ?_
    refine rg_iload_n (pc := 268) C 2 rfl rfl dX6_goes_268 ?_
    refine rg_iadd (pc := 269) C dX6_goes_269 ?_
    obtain ⟨g2, hf⟩ := ra_gd hf
    refine rg_iald (pc := 270) (j := (ra_ix (13 + v2))) C b1 h1 rfl g2 dX6_goes_270 ?_
    refine rg_iconst (pc := 271) (v := 3) C dX6_goes_271 (by decide) ?_
    refine rg_icmp_ne (pc := 272) (tgt := 312) C dX6_goes_272 (by decide) (fun c3 => ?_) (fun c3 => ?_)
    · replace hf := ra_f hf c3
      exact ih13 _ _ _ _ _ hf
    · replace hf := ra_t hf c3
      refine rg_aload_n (pc := 275) C 1 rfl rfl dX6_goes_275 ?_
      refine rg_bipush (pc := 276) (v := 20) C dX6_goes_276 (by decide) ?_
      refine rg_iload_n (pc := 278) C 2 rfl rfl dX6_goes_278 ?_
      refine rg_iadd (pc := 279) C dX6_goes_279 ?_
      refine rg_dup2 (pc := 280) C rfl rfl dX6_goes_280 ?_
      obtain ⟨g4, hf⟩ := ra_gd hf
      refine rg_iald (pc := 281) (j := (ra_ix (20 + v2))) C b1 h1 rfl g4 dX6_goes_281 ?_
      refine rg_iconst (pc := 282) (v := 1) C dX6_goes_282 (by decide) ?_
      refine rg_iadd (pc := 283) C dX6_goes_283 ?_
      refine rg_iast (pc := 284) (j := (ra_ix (20 + v2))) C b1 h1 rfl g4 dX6_goes_284 ?_
      refine rg_aload_n (pc := 285) C 1 rfl rfl dX6_goes_285 ?_
      refine rg_bipush (pc := 286) (v := 20) C dX6_goes_286 (by decide) ?_
      refine rg_iload_n (pc := 288) C 2 rfl rfl dX6_goes_288 ?_
      refine rg_iadd (pc := 289) C dX6_goes_289 ?_
      refine rg_iald (pc := 290) (j := (ra_ix (20 + v2))) C b1 h1 rfl g4 dX6_goes_290 ?_
      refine rg_aload_n (pc := 291) C 0 rfl rfl dX6_goes_291 ?_
      refine rg_get (pc := 292) C 134 6 9 kd_134 (by decide) rfl inlX6 (by decide) wd_605 rfl dX6_goes_292 ?_
      refine rg_iconst (pc := 295) (v := 2) C dX6_goes_295 (by decide) ?_
      refine rg_iald (pc := 296) (j := 2) C 136 kd_136 (by decide) (by decide) dX6_goes_296 ?_
      refine rg_icmp_le (pc := 297) (tgt := 312) C dX6_goes_297 (by decide) (fun c5 => ?_) (fun c5 => ?_)
      · replace hf := ra_t hf c5
        exact ih13 _ _ _ _ _ hf
      · replace hf := ra_f hf c5
        refine rg_aload_n (pc := 300) C 1 rfl rfl dX6_goes_300 ?_
        refine rg_iload_n (pc := 301) C 2 rfl rfl dX6_goes_301 ?_
        obtain ⟨r6, w7, e8, hf⟩ := ra_bd hf
        refine rg_callSV (pc := 302) (As := [.ref ((zG Z).1 b1), .int v2]) (st := []) C (kX6_rests (zl Z) (zG Z) C.hj k b1 h1 _ _ _ _ e8) ysX6_rests rfl wd_750 ⟨Nat.le_of_ble_eq_true rfl, Nat.le_of_ble_eq_true rfl⟩ rfl (Nat.le_of_ble_eq_true rfl) dX6_goes_302 ?_
        refine rg_aload_n (pc := 305) C 1 rfl rfl dX6_goes_305 ?_
        refine rg_iconst (pc := 306) (v := 5) C dX6_goes_306 (by decide) ?_
        refine rg_dup2 (pc := 307) C rfl rfl dX6_goes_307 ?_
        refine rg_iald (pc := 308) (j := 5) C b1 h1 (by decide) (by decide) dX6_goes_308 ?_
        refine rg_iconst (pc := 309) (v := 1) C dX6_goes_309 (by decide) ?_
        refine rg_iadd (pc := 310) C dX6_goes_310 ?_
        refine rg_iast (pc := 311) (j := 5) C b1 h1 (by decide) (by decide) dX6_goes_311 ?_
        exact ih13 _ _ _ _ _ hf
set_option maxHeartbeats 4000000 in
theorem tX6_goes_13 {Z : ra_Z} {r : Int32} {w1 : ra_W} (C : ra_C Z cX6_goes 3 RX6 4 94) (hQ : ra_QV Z r w1) (hr : (zmt Z).sig.returnType = none) (k : Nat) (b1 : Nat) (h1 : ra_kd b1 = (10, 41)) (n : Nat) (ih12 : pX6_goes_12 Z r w1 k b1 n) : pX6_goes_13 Z r w1 k b1 (n + 1) := by
  intro v2 s0 s1 s2 w hf
  rw [fX6_goes_13] at hf
  refine rg_iinc (pc := 312) (v := (v2 + 1)) (lv' := [(0, .ref ((zG Z).1 134)), (1, .ref ((zG Z).1 b1)), (2, .int (v2 + 1))]) C 2 rfl [1, 2, 0] (ra_ii (by decide)) rfl (by decide) dX6_goes_312 ?_
  refine rg_goto (pc := 315) (tgt := 255) C dX6_goes_315 (by decide) ?_
  exact ih12 _ _ _ _ _ hf
theorem tX6_goes {Z : ra_Z} {r : Int32} {w1 : ra_W} (C : ra_C Z cX6_goes 3 RX6 4 94) (hQ : ra_QV Z r w1) (hr : (zmt Z).sig.returnType = none) (k : Nat) (b1 : Nat) (h1 : ra_kd b1 = (10, 41)) : ∀ n : Nat, pX6_goes_0 Z r w1 k b1 n ∧ pX6_goes_1 Z r w1 k b1 n ∧ pX6_goes_2 Z r w1 k b1 n ∧ pX6_goes_3 Z r w1 k b1 n ∧ pX6_goes_4 Z r w1 k b1 n ∧ pX6_goes_5 Z r w1 k b1 n ∧ pX6_goes_6 Z r w1 k b1 n ∧ pX6_goes_7 Z r w1 k b1 n ∧ pX6_goes_8 Z r w1 k b1 n ∧ pX6_goes_9 Z r w1 k b1 n ∧ pX6_goes_10 Z r w1 k b1 n ∧ pX6_goes_11 Z r w1 k b1 n ∧ pX6_goes_12 Z r w1 k b1 n ∧ pX6_goes_13 Z r w1 k b1 n := by
  intro n
  induction n with
  | zero => exact ⟨(fun _ _ _ _ _ h => by cases h), (fun _ _ _ _ _ h => by cases h), (fun _ _ _ _ _ h => by cases h), (fun _ _ _ _ _ h => by cases h), (fun _ _ _ _ _ h => by cases h), (fun _ _ _ _ _ h => by cases h), (fun _ _ _ _ _ h => by cases h), (fun _ _ _ _ _ h => by cases h), (fun _ _ _ _ _ h => by cases h), (fun _ _ _ _ _ h => by cases h), (fun _ _ _ _ _ h => by cases h), (fun _ _ _ _ _ h => by cases h), (fun _ _ _ _ _ h => by cases h), (fun _ _ _ _ _ h => by cases h)⟩
  | succ n ih =>
    obtain ⟨ih0, ih1, ih2, ih3, ih4, ih5, ih6, ih7, ih8, ih9, ih10, ih11, ih12, ih13⟩ := ih
    exact ⟨tX6_goes_0 C hQ hr k b1 h1 n ih1, tX6_goes_1 C hQ hr k b1 h1 n ih1 ih2, tX6_goes_2 C hQ hr k b1 h1 n ih3 ih4 ih6, tX6_goes_3 C hQ hr k b1 h1 n ih4, tX6_goes_4 C hQ hr k b1 h1 n ih5, tX6_goes_5 C hQ hr k b1 h1 n ih2, tX6_goes_6 C hQ hr k b1 h1 n ih7 ih8 ih11, tX6_goes_7 C hQ hr k b1 h1 n ih8, tX6_goes_8 C hQ hr k b1 h1 n ih9 ih10, tX6_goes_9 C hQ hr k b1 h1 n ih10, tX6_goes_10 C hQ hr k b1 h1 n ih6, tX6_goes_11 C hQ hr k b1 h1 n ih11 ih12, tX6_goes_12 C hQ hr k b1 h1 n ih13, tX6_goes_13 C hQ hr k b1 h1 n ih12⟩
theorem kX6_goes (l : Launch) (G : ra_G) (hj : ra_inj G) (k : Nat) (b1 : Nat) (h1 : ra_kd b1 = (10, 41))  (w : ra_W) (r : Int32) (w1 : ra_W) (h : FX6_goes k b1  w = some (r, w1)) : ra_MV l G yX6_goes cX6_goes 3 none 4 94 [.ref (G.1 134), .ref (G.1 b1)] w r w1 :=
  ra_entryV (own := RX6) (by decide) rfl (Nat.le_of_ble_eq_true rfl) hj (fun Z hl hG C hQ hr => by subst hl; subst hG; exact (tX6_goes C hQ hr k b1 h1 k).1 _ _ _ _ _ h)
theorem ysX6_goes : ra_YV yX6_goes cX6_goes 3 none 1 RX6 := ⟨⟨wd_7, wd_730, by decide, by decide, by decide⟩, wd_729, wp_29⟩
/-- TrunkRadioModel.isOn -/
def fX6_isOn (k : Nat) (b1 : Nat) : Nat → Nat → Int32 → ra_W → Option (Int32 × ra_W)
  | 0, _, _, _ => none
  | n + 1, L, v2, w => match L with
    | _ => if ra_in (13 + v2) 41 then if (w b1 (ra_ix (13 + v2))) = 4 then (some (1, w)) else (if (w b1 (ra_ix (13 + v2))) = 5 then (some (1, w)) else (some (0, w))) else none
theorem fX6_isOn_0 (k : Nat) (b1 : Nat) (n : Nat) (v2 : Int32) (w : ra_W) : fX6_isOn k b1 (n + 1) 0 v2 w = (if ra_in (13 + v2) 41 then if (w b1 (ra_ix (13 + v2))) = 4 then (some (1, w)) else (if (w b1 (ra_ix (13 + v2))) = 5 then (some (1, w)) else (some (0, w))) else none) := rfl
def FX6_isOn (k : Nat) (b1 : Nat) (v2 : Int32) (w : ra_W) : Option (Int32 × ra_W) := fX6_isOn k b1 k 0 v2 w
def pX6_isOn_0 (Z : ra_Z) (r : Int32) (w1 : ra_W) (k : Nat) (b1 : Nat) (n : Nat) : Prop := ∀ (v2 : Int32) (w : ra_W), fX6_isOn k b1 n 0 v2 w = some (r, w1) → ra_J Z 3 0 [(0, .ref ((zG Z).1 134)), (1, .ref ((zG Z).1 b1)), (2, .int v2)] [] w
set_option maxHeartbeats 4000000 in
theorem tX6_isOn_0 {Z : ra_Z} {r : Int32} {w1 : ra_W} (C : ra_C Z cX6_isOn 3 RX6 0 0) (hQ : ra_QI Z r w1) (hr : (zmt Z).sig.returnType = (some .boolean)) (k : Nat) (b1 : Nat) (h1 : ra_kd b1 = (10, 41)) (n : Nat) : pX6_isOn_0 Z r w1 k b1 (n + 1) := by
  intro v2 w hf
  rw [fX6_isOn_0] at hf
  refine rg_aload_n (pc := 0) C 1 rfl rfl dX6_isOn_0 ?_
  refine rg_bipush (pc := 1) (v := 13) C dX6_isOn_1 (by decide) ?_
  refine rg_iload_n (pc := 3) C 2 rfl rfl dX6_isOn_3 ?_
  refine rg_iadd (pc := 4) C dX6_isOn_4 ?_
  obtain ⟨g1, hf⟩ := ra_gd hf
  refine rg_iald (pc := 5) (j := (ra_ix (13 + v2))) C b1 h1 rfl g1 dX6_isOn_5 ?_
  refine rg_iconst (pc := 6) (v := 4) C dX6_isOn_6 (by decide) ?_
  refine rg_icmp_eq (pc := 7) (tgt := 20) C dX6_isOn_7 (by decide) (fun c2 => ?_) (fun c2 => ?_)
  · replace hf := ra_t hf c2
    refine rg_iconst (pc := 20) (v := 1) C dX6_isOn_20 (by decide) ?_
    refine rg_goto (pc := 21) (tgt := 25) C dX6_isOn_21 (by decide) ?_
    exact rg_zret (pc := 25) C hQ hr (by decide) hf dX6_isOn_25
  · replace hf := ra_f hf c2
    refine rg_aload_n (pc := 10) C 1 rfl rfl dX6_isOn_10 ?_
    refine rg_bipush (pc := 11) (v := 13) C dX6_isOn_11 (by decide) ?_
    refine rg_iload_n (pc := 13) C 2 rfl rfl dX6_isOn_13 ?_
    refine rg_iadd (pc := 14) C dX6_isOn_14 ?_
    refine rg_iald (pc := 15) (j := (ra_ix (13 + v2))) C b1 h1 rfl g1 dX6_isOn_15 ?_
    refine rg_iconst (pc := 16) (v := 5) C dX6_isOn_16 (by decide) ?_
    refine rg_icmp_ne (pc := 17) (tgt := 24) C dX6_isOn_17 (by decide) (fun c3 => ?_) (fun c3 => ?_)
    · replace hf := ra_f hf c3
      refine rg_iconst (pc := 24) (v := 0) C dX6_isOn_24 (by decide) ?_
      exact rg_zret (pc := 25) C hQ hr (by decide) hf dX6_isOn_25
    · replace hf := ra_t hf c3
      refine rg_iconst (pc := 20) (v := 1) C dX6_isOn_20 (by decide) ?_
      refine rg_goto (pc := 21) (tgt := 25) C dX6_isOn_21 (by decide) ?_
      exact rg_zret (pc := 25) C hQ hr (by decide) hf dX6_isOn_25
theorem tX6_isOn {Z : ra_Z} {r : Int32} {w1 : ra_W} (C : ra_C Z cX6_isOn 3 RX6 0 0) (hQ : ra_QI Z r w1) (hr : (zmt Z).sig.returnType = (some .boolean)) (k : Nat) (b1 : Nat) (h1 : ra_kd b1 = (10, 41)) : ∀ n : Nat, pX6_isOn_0 Z r w1 k b1 n := by
  intro n
  induction n with
  | zero => exact (fun _ _ h => by cases h)
  | succ n ih => exact tX6_isOn_0 C hQ hr k b1 h1 n
theorem kX6_isOn (l : Launch) (G : ra_G) (hj : ra_inj G) (k : Nat) (b1 : Nat) (h1 : ra_kd b1 = (10, 41)) (v2 : Int32) (w : ra_W) (r : Int32) (w1 : ra_W) (h : FX6_isOn k b1 v2 w = some (r, w1)) : ra_MI l G yX6_isOn cX6_isOn 3 (some .boolean) 0 0 [.ref (G.1 134), .ref (G.1 b1), .int v2] w r w1 :=
  ra_entryI (own := RX6) (by decide) rfl (Nat.le_of_ble_eq_true rfl) hj (fun Z hl hG C hQ hr => by subst hl; subst hG; exact (tX6_isOn C hQ hr k b1 h1 k) _ _ h)
theorem ysX6_isOn : ra_YV yX6_isOn cX6_isOn 3 (some .boolean) 2 RX6 := ⟨⟨wd_7, wd_795, by decide, by decide, by decide⟩, wd_794, wp_43⟩
