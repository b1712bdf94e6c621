/-- TrunkRadio.isEnough -/
def fX5_isEnough (k : Nat) : Nat → Nat → Int32 → Int32 → ra_W → Option (Int32 × ra_W)
  | 0, _, _, _, _ => none
  | n + 1, L, v1, v2, w => match L with
    | 0 => ra_bind (FX4_copy k 23 16 w) (fun _ w2 => ra_bind (FX4_pressIdle k 23 8 v1 w2) (fun _ w5 => fX5_isEnough k n 1 0 0 w5))
    | _ => if 60 ≤ v2 then (some (1, w)) else (ra_bind (FX4_isAnyWaiting k 23 8 w) (fun r2 w3 => if r2 = 0 then (some (1, w3)) else (ra_bind (FX0_pass k 8 23 w3) (fun _ w7 => if (w7 23 9) = (w7 16 9) then (fX5_isEnough k n 1 0 (v2 + 1) w7) else (some (0, w7))))))
theorem fX5_isEnough_0 (k : Nat) (n : Nat) (v1 : Int32) (v2 : Int32) (w : ra_W) : fX5_isEnough k (n + 1) 0 v1 v2 w = (ra_bind (FX4_copy k 23 16 w) (fun _ w2 => ra_bind (FX4_pressIdle k 23 8 v1 w2) (fun _ w5 => fX5_isEnough k n 1 0 0 w5))) := rfl
theorem fX5_isEnough_1 (k : Nat) (n : Nat) (v1 : Int32) (v2 : Int32) (w : ra_W) : fX5_isEnough k (n + 1) 1 v1 v2 w = (if 60 ≤ v2 then (some (1, w)) else (ra_bind (FX4_isAnyWaiting k 23 8 w) (fun r2 w3 => if r2 = 0 then (some (1, w3)) else (ra_bind (FX0_pass k 8 23 w3) (fun _ w7 => if (w7 23 9) = (w7 16 9) then (fX5_isEnough k n 1 0 (v2 + 1) w7) else (some (0, w7))))))) := rfl
def FX5_isEnough (k : Nat) (v1 : Int32) (w : ra_W) : Option (Int32 × ra_W) := fX5_isEnough k k 0 v1 0 w
def pX5_isEnough_0 (Z : ra_Z) (r : Int32) (w1 : ra_W) (k : Nat) (n : Nat) : Prop := ∀ (v1 : Int32) (v2 : Int32) (w : ra_W), fX5_isEnough k n 0 v1 v2 w = some (r, w1) → ra_J Z 3 0 [(0, .ref ((zG Z).1 0)), (1, .int v1)] [] w
def pX5_isEnough_1 (Z : ra_Z) (r : Int32) (w1 : ra_W) (k : Nat) (n : Nat) : Prop := ∀ (v1 : Int32) (v2 : Int32) (w : ra_W), fX5_isEnough k n 1 v1 v2 w = some (r, w1) → ra_J Z 3 25 [(0, .ref ((zG Z).1 0)), (2, .int v2)] [] w
set_option maxHeartbeats 4000000 in
theorem tX5_isEnough_0 {Z : ra_Z} {r : Int32} {w1 : ra_W} (C : ra_C Z cX5_isEnough 3 RX5 5 117) (hQ : ra_QI Z r w1) (hr : (zmt Z).sig.returnType = (some .boolean)) (k : Nat) (n : Nat) (ih1 : pX5_isEnough_1 Z r w1 k n) : pX5_isEnough_0 Z r w1 k (n + 1) := by
  intro v1 v2 w hf
  rw [fX5_isEnough_0] at hf
  refine rg_aload_n (pc := 0) C 0 rfl rfl dX5_isEnough_0 ?_
  refine rg_get (pc := 1) C 0 5 5 kd_0 (by decide) rfl inlX5 (by decide) wd_206 rfl dX5_isEnough_1 ?_
  refine rg_aload_n (pc := 4) C 0 rfl rfl dX5_isEnough_4 ?_
  refine rg_get (pc := 5) C 0 5 4 kd_0 (by decide) rfl inlX5 (by decide) wd_205 rfl dX5_isEnough_5 ?_
  obtain ⟨r1, w2, e3, hf⟩ := ra_bd hf
  refine rg_callVV (pc := 8) (As := [.ref ((zG Z).1 16)]) (st := []) C (kX4_copy (zl Z) (zG Z) C.hj k 23 16 ra_S23 ra_S16 _ _ _ e3) kd_23 (by decide) rfl ysX4_copy rfl wd_484 ⟨Nat.le_of_ble_eq_true rfl, Nat.le_of_ble_eq_true rfl⟩ rfl (Nat.le_of_ble_eq_true rfl) dX5_isEnough_8 ?_
  refine rg_aload_n (pc := 11) C 0 rfl rfl dX5_isEnough_11 ?_
  refine rg_get (pc := 12) C 0 5 5 kd_0 (by decide) rfl inlX5 (by decide) wd_206 rfl dX5_isEnough_12 ?_
  refine rg_aload_n (pc := 15) C 0 rfl rfl dX5_isEnough_15 ?_
  refine rg_get (pc := 16) C 0 5 2 kd_0 (by decide) rfl inlX5 (by decide) wd_203 rfl dX5_isEnough_16 ?_
  refine rg_iload_n (pc := 19) C 1 rfl rfl dX5_isEnough_19 ?_
  obtain ⟨r4, w5, e6, hf⟩ := ra_bd hf
  refine rg_callVV (pc := 20) (As := [.ref ((zG Z).1 8), .int v1]) (st := []) C (kX4_pressIdle (zl Z) (zG Z) C.hj k 23 8 ra_S23 ra_N8 _ _ _ _ e6) kd_23 (by decide) rfl ysX4_pressIdle rfl wd_498 ⟨Nat.le_of_ble_eq_true rfl, Nat.le_of_ble_eq_true rfl⟩ rfl (Nat.le_of_ble_eq_true rfl) dX5_isEnough_20 ?_
  refine rg_iconst (pc := 23) (v := 0) C dX5_isEnough_23 (by decide) ?_
  refine rg_istore_n (pc := 24) (lv' := [(0, .ref ((zG Z).1 0)), (1, .int v1), (2, .int 0)]) C [1, 2, 0] rfl rfl (by decide) dX5_isEnough_24 ?_
  refine rg_sub [0, 2] rfl ?_
  exact ih1 _ _ _ hf
set_option maxHeartbeats 4000000 in
theorem tX5_isEnough_1 {Z : ra_Z} {r : Int32} {w1 : ra_W} (C : ra_C Z cX5_isEnough 3 RX5 5 117) (hQ : ra_QI Z r w1) (hr : (zmt Z).sig.returnType = (some .boolean)) (k : Nat) (n : Nat) (ih1 : pX5_isEnough_1 Z r w1 k n) : pX5_isEnough_1 Z r w1 k (n + 1) := by
  intro v1 v2 w hf
  rw [fX5_isEnough_1] at hf
  refine rg_iload_n (pc := 25) C 1 rfl rfl dX5_isEnough_25 ?_
  refine rg_bipush (pc := 26) (v := 60) C dX5_isEnough_26 (by decide) ?_
  refine rg_icmp_ge (pc := 28) (tgt := 85) C dX5_isEnough_28 (by decide) (fun c1 => ?_) (fun c1 => ?_)
  · replace hf := ra_t hf c1
    refine rg_iconst (pc := 85) (v := 1) C dX5_isEnough_85 (by decide) ?_
    exact rg_zret (pc := 86) C hQ hr (by decide) hf dX5_isEnough_86
  · replace hf := ra_f hf c1
    refine rg_aload_n (pc := 31) C 0 rfl rfl dX5_isEnough_31 ?_
    refine rg_get (pc := 32) C 0 5 5 kd_0 (by decide) rfl inlX5 (by decide) wd_206 rfl dX5_isEnough_32 ?_
    refine rg_aload_n (pc := 35) C 0 rfl rfl dX5_isEnough_35 ?_
    refine rg_get (pc := 36) C 0 5 2 kd_0 (by decide) rfl inlX5 (by decide) wd_203 rfl dX5_isEnough_36 ?_
    obtain ⟨r2, w3, e4, hf⟩ := ra_bd hf
    refine rg_callVI (pc := 39) (As := [.ref ((zG Z).1 8)]) (st := []) C (kX4_isAnyWaiting (zl Z) (zG Z) C.hj k 23 8 ra_S23 ra_N8 _ _ _ e4) kd_23 (by decide) rfl ysX4_isAnyWaiting rfl wd_502 ⟨Nat.le_of_ble_eq_true rfl, Nat.le_of_ble_eq_true rfl⟩ rfl (Nat.le_of_ble_eq_true rfl) dX5_isEnough_39 ?_
    refine rg_if_eq (pc := 42) (tgt := 85) C dX5_isEnough_42 (by decide) (fun c5 => ?_) (fun c5 => ?_)
    · replace hf := ra_t hf c5
      refine rg_iconst (pc := 85) (v := 1) C dX5_isEnough_85 (by decide) ?_
      exact rg_zret (pc := 86) C hQ hr (by decide) hf dX5_isEnough_86
    · replace hf := ra_f hf c5
      refine rg_aload_n (pc := 45) C 0 rfl rfl dX5_isEnough_45 ?_
      refine rg_get (pc := 46) C 0 5 3 kd_0 (by decide) rfl inlX5 (by decide) wd_204 rfl dX5_isEnough_46 ?_
      refine rg_aload_n (pc := 49) C 0 rfl rfl dX5_isEnough_49 ?_
      refine rg_get (pc := 50) C 0 5 2 kd_0 (by decide) rfl inlX5 (by decide) wd_203 rfl dX5_isEnough_50 ?_
      refine rg_aload_n (pc := 53) C 0 rfl rfl dX5_isEnough_53 ?_
      refine rg_get (pc := 54) C 0 5 5 kd_0 (by decide) rfl inlX5 (by decide) wd_206 rfl dX5_isEnough_54 ?_
      obtain ⟨r6, w7, e8, hf⟩ := ra_bd hf
      refine rg_callVV (pc := 57) (As := [.ref ((zG Z).1 8), .ref ((zG Z).1 23)]) (st := []) C (kX0_pass (zl Z) (zG Z) C.hj k 8 23 ra_N8 ra_S23 _ _ _ e8) kd_13 (by decide) rfl ysX0_pass rfl wd_349 ⟨Nat.le_of_ble_eq_true rfl, Nat.le_of_ble_eq_true rfl⟩ rfl (Nat.le_of_ble_eq_true rfl) dX5_isEnough_57 ?_
      refine rg_aload_n (pc := 60) C 0 rfl rfl dX5_isEnough_60 ?_
      refine rg_get (pc := 61) C 0 5 5 kd_0 (by decide) rfl inlX5 (by decide) wd_206 rfl dX5_isEnough_61 ?_
      refine rg_get (pc := 64) C 23 4 9 kd_23 (by decide) rfl inlX4 (by decide) wd_159 rfl dX5_isEnough_64 ?_
      refine rg_aload_n (pc := 67) C 0 rfl rfl dX5_isEnough_67 ?_
      refine rg_get (pc := 68) C 0 5 4 kd_0 (by decide) rfl inlX5 (by decide) wd_205 rfl dX5_isEnough_68 ?_
      refine rg_get (pc := 71) C 16 4 9 kd_16 (by decide) rfl inlX4 (by decide) wd_159 rfl dX5_isEnough_71 ?_
      refine rg_icmp_eq (pc := 74) (tgt := 79) C dX5_isEnough_74 (by decide) (fun c9 => ?_) (fun c9 => ?_)
      · replace hf := ra_t hf c9
        refine rg_iinc (pc := 79) (v := (v2 + 1)) (lv' := [(0, .ref ((zG Z).1 0)), (2, .int (v2 + 1))]) C 1 rfl [1, 0] (ra_ii (by decide)) rfl (by decide) dX5_isEnough_79 ?_
        refine rg_goto (pc := 82) (tgt := 25) C dX5_isEnough_82 (by decide) ?_
        exact ih1 _ _ _ hf
      · replace hf := ra_f hf c9
        refine rg_iconst (pc := 77) (v := 0) C dX5_isEnough_77 (by decide) ?_
        exact rg_zret (pc := 78) C hQ hr (by decide) hf dX5_isEnough_78
theorem tX5_isEnough {Z : ra_Z} {r : Int32} {w1 : ra_W} (C : ra_C Z cX5_isEnough 3 RX5 5 117) (hQ : ra_QI Z r w1) (hr : (zmt Z).sig.returnType = (some .boolean)) (k : Nat) : ∀ n : Nat, pX5_isEnough_0 Z r w1 k n ∧ pX5_isEnough_1 Z r w1 k n := by
  intro n
  induction n with
  | zero => exact ⟨(fun _ _ _ h => by cases h), (fun _ _ _ h => by cases h)⟩
  | succ n ih =>
    obtain ⟨ih0, ih1⟩ := ih
    exact ⟨tX5_isEnough_0 C hQ hr k n ih1, tX5_isEnough_1 C hQ hr k n ih1⟩
theorem kX5_isEnough (l : Launch) (G : ra_G) (hj : ra_inj G) (k : Nat) (v1 : Int32) (w : ra_W) (r : Int32) (w1 : ra_W) (h : FX5_isEnough k v1 w = some (r, w1)) : ra_MI l G yX5_isEnough cX5_isEnough 3 (some .boolean) 5 117 [.ref (G.1 0), .int v1] w r w1 :=
  ra_entryI (own := RX5) (by decide) rfl (Nat.le_of_ble_eq_true rfl) hj (fun Z hl hG C hQ hr => by subst hl; subst hG; exact (tX5_isEnough C hQ hr k k).1 _ _ _ h)
theorem ysX5_isEnough : ra_YV yX5_isEnough cX5_isEnough 3 (some .boolean) 1 RX5 := ⟨⟨wd_1, wd_510, by decide, by decide, by decide⟩, wd_509, wp_13⟩
/-- TrunkRadio.wave -/
def fX5_wave (k : Nat) : Nat → Nat → Int32 → Int32 → Int32 → Int32 → ra_W → Option (Int32 × ra_W)
  | 0, _, _, _, _, _, _ => none
  | n + 1, L, v1, v2, v3, v4, w => match L with
    | 0 => if v1 < 0 then (some ((-1), w)) else (if (1 <<< ((w 3 0) &&& 31)) ≤ v1 then (some ((-1), w)) else (ra_bind (FX5_isBit k v2 w) (fun r3 w4 => if r3 = 0 then (some ((-1), w4)) else (if v2 = 0 then (ra_bind (FX5_waveLasts k v1 w4) (fun r8 w9 => some (r8, w9))) else (fX5_wave k n 1 v1 0 1 0 w4)))))
    | 1 => if 3 < v3 then (some ((-9), w)) else (ra_bind (FX2_copy k 8 3 w) (fun _ w3 => fX5_wave k n 2 v1 0 v3 0 w3))
    | _ => if 2 ≤ v4 then (ra_bind (FX5_isEnough k v1 w) (fun r2 w3 => if r2 = 0 then (fX5_wave k n 1 v1 0 (v3 + 1) 0 w3) else (some (v3, w3)))) else (if ra_in v4 2 then ra_bind (FX4_free k 16 3 v4 w) (fun r7 w8 => fX5_wave k n 2 v1 0 v3 (v4 + 1) (ra_st w8 9 (ra_ix v4) (if v3 < ((w 4 (ra_ix v4)) - r7) then ((w 4 (ra_ix v4)) - r7) else v3))) else none)
theorem fX5_wave_0 (k : Nat) (n : Nat) (v1 : Int32) (v2 : Int32) (v3 : Int32) (v4 : Int32) (w : ra_W) : fX5_wave k (n + 1) 0 v1 v2 v3 v4 w = (if v1 < 0 then (some ((-1), w)) else (if (1 <<< ((w 3 0) &&& 31)) ≤ v1 then (some ((-1), w)) else (ra_bind (FX5_isBit k v2 w) (fun r3 w4 => if r3 = 0 then (some ((-1), w4)) else (if v2 = 0 then (ra_bind (FX5_waveLasts k v1 w4) (fun r8 w9 => some (r8, w9))) else (fX5_wave k n 1 v1 0 1 0 w4)))))) := rfl
theorem fX5_wave_1 (k : Nat) (n : Nat) (v1 : Int32) (v2 : Int32) (v3 : Int32) (v4 : Int32) (w : ra_W) : fX5_wave k (n + 1) 1 v1 v2 v3 v4 w = (if 3 < v3 then (some ((-9), w)) else (ra_bind (FX2_copy k 8 3 w) (fun _ w3 => fX5_wave k n 2 v1 0 v3 0 w3))) := rfl
theorem fX5_wave_2 (k : Nat) (n : Nat) (v1 : Int32) (v2 : Int32) (v3 : Int32) (v4 : Int32) (w : ra_W) : fX5_wave k (n + 1) 2 v1 v2 v3 v4 w = (if 2 ≤ v4 then (ra_bind (FX5_isEnough k v1 w) (fun r2 w3 => if r2 = 0 then (fX5_wave k n 1 v1 0 (v3 + 1) 0 w3) else (some (v3, w3)))) else (if ra_in v4 2 then ra_bind (FX4_free k 16 3 v4 w) (fun r7 w8 => fX5_wave k n 2 v1 0 v3 (v4 + 1) (ra_st w8 9 (ra_ix v4) (if v3 < ((w 4 (ra_ix v4)) - r7) then ((w 4 (ra_ix v4)) - r7) else v3))) else none)) := rfl
def FX5_wave (k : Nat) (v1 : Int32) (v2 : Int32) (w : ra_W) : Option (Int32 × ra_W) := fX5_wave k k 0 v1 v2 0 0 w
def pX5_wave_0 (Z : ra_Z) (r : Int32) (w1 : ra_W) (k : Nat) (n : Nat) : Prop := ∀ (v1 : Int32) (v2 : Int32) (v3 : Int32) (v4 : Int32) (w : ra_W), fX5_wave k n 0 v1 v2 v3 v4 w = some (r, w1) → ra_J Z 6 0 [(0, .ref ((zG Z).1 0)), (1, .int v1), (2, .int v2)] [] w
def pX5_wave_1 (Z : ra_Z) (r : Int32) (w1 : ra_W) (k : Nat) (n : Nat) : Prop := ∀ (v1 : Int32) (v2 : Int32) (v3 : Int32) (v4 : Int32) (w : ra_W), fX5_wave k n 1 v1 v2 v3 v4 w = some (r, w1) → ra_J Z 6 38 [(0, .ref ((zG Z).1 0)), (1, .int v1), (3, .int v3)] [] w
def pX5_wave_2 (Z : ra_Z) (r : Int32) (w1 : ra_W) (k : Nat) (n : Nat) : Prop := ∀ (v1 : Int32) (v2 : Int32) (v3 : Int32) (v4 : Int32) (w : ra_W), fX5_wave k n 2 v1 v2 v3 v4 w = some (r, w1) → ra_J Z 6 57 [(0, .ref ((zG Z).1 0)), (1, .int v1), (3, .int v3), (4, .int v4)] [] w
set_option maxHeartbeats 4000000 in
theorem tX5_wave_0 {Z : ra_Z} {r : Int32} {w1 : ra_W} (C : ra_C Z cX5_wave 6 RX5 6 139) (hQ : ra_QI Z r w1) (hr : (zmt Z).sig.returnType = (some .int)) (k : Nat) (n : Nat) (ih1 : pX5_wave_1 Z r w1 k n) : pX5_wave_0 Z r w1 k (n + 1) := by
  intro v1 v2 v3 v4 w hf
  rw [fX5_wave_0] at hf
  refine rg_iload_n (pc := 0) C 1 rfl rfl dX5_wave_0 ?_
  refine rg_if_lt (pc := 1) (tgt := 24) C dX5_wave_1 (by decide) (fun c1 => ?_) (fun c1 => ?_)
  · replace hf := ra_t hf c1
    refine rg_iconst (pc := 24) (v := (-1)) C dX5_wave_24 (by decide) ?_
    exact rg_iret (pc := 25) C hQ hr hf dX5_wave_25
  · replace hf := ra_f hf c1
    refine rg_iload_n (pc := 4) C 1 rfl rfl dX5_wave_4 ?_
    refine rg_iconst (pc := 5) (v := 1) C dX5_wave_5 (by decide) ?_
    refine rg_aload_n (pc := 6) C 0 rfl rfl dX5_wave_6 ?_
    refine rg_get (pc := 7) C 0 5 1 kd_0 (by decide) rfl inlX5 (by decide) wd_202 rfl dX5_wave_7 ?_
    refine rg_get (pc := 10) C 3 2 0 kd_3 (by decide) rfl inlX2 (by decide) wd_67 rfl dX5_wave_10 ?_
    refine rg_ishl (pc := 13) C dX5_wave_13 ?_
    refine rg_icmp_ge (pc := 14) (tgt := 24) C dX5_wave_14 (by decide) (fun c2 => ?_) (fun c2 => ?_)
    · replace hf := ra_t hf c2
      refine rg_iconst (pc := 24) (v := (-1)) C dX5_wave_24 (by decide) ?_
      exact rg_iret (pc := 25) C hQ hr hf dX5_wave_25
    · replace hf := ra_f hf c2
      refine rg_iload_n (pc := 17) C 2 rfl rfl dX5_wave_17 ?_
      obtain ⟨r3, w4, e5, hf⟩ := ra_bd hf
      refine rg_callSI (pc := 18) (As := [.int v2]) (st := []) C (kX5_isBit (zl Z) (zG Z) C.hj k _ _ _ _ e5) ysX5_isBit rfl wd_429 ⟨Nat.le_of_ble_eq_true rfl, Nat.le_of_ble_eq_true rfl⟩ rfl (Nat.le_of_ble_eq_true rfl) dX5_wave_18 ?_
      refine rg_if_ne (pc := 21) (tgt := 26) C dX5_wave_21 (by decide) (fun c6 => ?_) (fun c6 => ?_)
      · replace hf := ra_f hf c6
        refine rg_iload_n (pc := 26) C 2 rfl rfl dX5_wave_26 ?_
        refine rg_if_ne (pc := 27) (tgt := 36) C dX5_wave_27 (by decide) (fun c7 => ?_) (fun c7 => ?_)
        · replace hf := ra_f hf c7
          refine rg_iconst (pc := 36) (v := 1) C dX5_wave_36 (by decide) ?_
          refine rg_istore_n (pc := 37) (lv' := [(0, .ref ((zG Z).1 0)), (1, .int v1), (2, .int v2), (3, .int 1)]) C [1, 2, 3, 0] rfl rfl (by decide) dX5_wave_37 ?_
          refine rg_sub [0, 1, 3] rfl ?_
          exact ih1 _ _ _ _ _ hf
        · replace hf := ra_t hf c7
          refine rg_aload_n (pc := 30) C 0 rfl rfl dX5_wave_30 ?_
          refine rg_iload_n (pc := 31) C 1 rfl rfl dX5_wave_31 ?_
          obtain ⟨r8, w9, e10, hf⟩ := ra_bd hf
          refine rg_callVI (pc := 32) (As := [.int v1]) (st := []) C (kX5_waveLasts (zl Z) (zG Z) C.hj k _ _ _ _ e10) kd_0 (by decide) rfl ysX5_waveLasts rfl wd_494 ⟨Nat.le_of_ble_eq_true rfl, Nat.le_of_ble_eq_true rfl⟩ rfl (Nat.le_of_ble_eq_true rfl) dX5_wave_32 ?_
          exact rg_iret (pc := 35) C hQ hr hf dX5_wave_35
      · replace hf := ra_t hf c6
        refine rg_iconst (pc := 24) (v := (-1)) C dX5_wave_24 (by decide) ?_
        exact rg_iret (pc := 25) C hQ hr hf dX5_wave_25
set_option maxHeartbeats 4000000 in
theorem tX5_wave_1 {Z : ra_Z} {r : Int32} {w1 : ra_W} (C : ra_C Z cX5_wave 6 RX5 6 139) (hQ : ra_QI Z r w1) (hr : (zmt Z).sig.returnType = (some .int)) (k : Nat) (n : Nat) (ih2 : pX5_wave_2 Z r w1 k n) : pX5_wave_1 Z r w1 k (n + 1) := by
  intro v1 v2 v3 v4 w hf
  rw [fX5_wave_1] at hf
  refine rg_iload_n (pc := 38) C 2 rfl rfl dX5_wave_38 ?_
  refine rg_iconst (pc := 39) (v := 3) C dX5_wave_39 (by decide) ?_
  refine rg_icmp_gt (pc := 40) (tgt := 127) C dX5_wave_40 (by decide) (fun c1 => ?_) (fun c1 => ?_)
  · replace hf := ra_t hf c1
    refine rg_bipush (pc := 127) (v := (-9)) C dX5_wave_127 (by decide) ?_
    exact rg_iret (pc := 129) C hQ hr hf dX5_wave_129
  · replace hf := ra_f hf c1
    refine rg_aload_n (pc := 43) C 0 rfl rfl dX5_wave_43 ?_
    refine rg_get (pc := 44) C 0 5 2 kd_0 (by decide) rfl inlX5 (by decide) wd_203 rfl dX5_wave_44 ?_
    refine rg_aload_n (pc := 47) C 0 rfl rfl dX5_wave_47 ?_
    refine rg_get (pc := 48) C 0 5 1 kd_0 (by decide) rfl inlX5 (by decide) wd_202 rfl dX5_wave_48 ?_
    obtain ⟨r2, w3, e4, hf⟩ := ra_bd hf
    refine rg_callVV (pc := 51) (As := [.ref ((zG Z).1 3)]) (st := []) C (kX2_copy (zl Z) (zG Z) C.hj k 8 3 ra_N8 ra_N3 _ _ _ e4) kd_8 (by decide) rfl ysX2_copy rfl wd_312 ⟨Nat.le_of_ble_eq_true rfl, Nat.le_of_ble_eq_true rfl⟩ rfl (Nat.le_of_ble_eq_true rfl) dX5_wave_51 ?_
    refine rg_iconst (pc := 54) (v := 0) C dX5_wave_54 (by decide) ?_
    refine rg_istore (pc := 55) (lv' := [(0, .ref ((zG Z).1 0)), (1, .int v1), (3, .int v3), (4, .int 0)]) C [1, 2, 3, 0] rfl (by decide) dX5_wave_55 ?_
    exact ih2 _ _ _ _ _ hf
set_option maxHeartbeats 4000000 in
theorem tX5_wave_2 {Z : ra_Z} {r : Int32} {w1 : ra_W} (C : ra_C Z cX5_wave 6 RX5 6 139) (hQ : ra_QI Z r w1) (hr : (zmt Z).sig.returnType = (some .int)) (k : Nat) (n : Nat) (ih1 : pX5_wave_1 Z r w1 k n) (ih2 : pX5_wave_2 Z r w1 k n) : pX5_wave_2 Z r w1 k (n + 1) := by
  intro v1 v2 v3 v4 w hf
  rw [fX5_wave_2] at hf
  refine rg_iload (pc := 57) C 3 rfl dX5_wave_57 ?_
  refine rg_iconst (pc := 59) (v := 2) C dX5_wave_59 (by decide) ?_
  refine rg_icmp_ge (pc := 60) (tgt := 111) C dX5_wave_60 (by decide) (fun c1 => ?_) (fun c1 => ?_)
  · replace hf := ra_t hf c1
    refine rg_aload_n (pc := 111) C 0 rfl rfl dX5_wave_111 ?_
    refine rg_iload_n (pc := 112) C 1 rfl rfl dX5_wave_112 ?_
    obtain ⟨r2, w3, e4, hf⟩ := ra_bd hf
    refine rg_callVI (pc := 113) (As := [.int v1]) (st := []) C (kX5_isEnough (zl Z) (zG Z) C.hj k _ _ _ _ e4) kd_0 (by decide) rfl ysX5_isEnough rfl wd_507 ⟨Nat.le_of_ble_eq_true rfl, Nat.le_of_ble_eq_true rfl⟩ rfl (Nat.le_of_ble_eq_true rfl) dX5_wave_113 ?_
    refine rg_if_eq (pc := 116) (tgt := 121) C dX5_wave_116 (by decide) (fun c5 => ?_) (fun c5 => ?_)
    · replace hf := ra_t hf c5
      refine rg_iinc (pc := 121) (v := (v3 + 1)) (lv' := [(0, .ref ((zG Z).1 0)), (1, .int v1), (3, .int (v3 + 1)), (4, .int v4)]) C 2 rfl [1, 2, 0, 3] (ra_ii (by decide)) rfl (by decide) dX5_wave_121 ?_
      refine rg_goto (pc := 124) (tgt := 38) C dX5_wave_124 (by decide) ?_
      refine rg_sub [0, 1, 2] rfl ?_
      exact ih1 _ _ _ _ _ hf
    · replace hf := ra_f hf c5
      refine rg_iload_n (pc := 119) C 2 rfl rfl dX5_wave_119 ?_
      exact rg_iret (pc := 120) C hQ hr hf dX5_wave_120
  · replace hf := ra_f hf c1
    refine rg_aload_n (pc := 63) C 0 rfl rfl dX5_wave_63 ?_
    refine rg_get (pc := 64) C 0 5 1 kd_0 (by decide) rfl inlX5 (by decide) wd_202 rfl dX5_wave_64 ?_
    refine rg_get (pc := 67) C 3 2 3 kd_3 (by decide) rfl inlX2 (by decide) wd_82 rfl dX5_wave_67 ?_
    refine rg_iload (pc := 70) C 3 rfl dX5_wave_70 ?_
    obtain ⟨g6, hf⟩ := ra_gd hf
    refine rg_iald (pc := 72) (j := (ra_ix v4)) C 4 kd_4 rfl g6 dX5_wave_72 ?_
    refine rg_aload_n (pc := 73) C 0 rfl rfl dX5_wave_73 ?_
    refine rg_get (pc := 74) C 0 5 4 kd_0 (by decide) rfl inlX5 (by decide) wd_205 rfl dX5_wave_74 ?_
    refine rg_aload_n (pc := 77) C 0 rfl rfl dX5_wave_77 ?_
    refine rg_get (pc := 78) C 0 5 1 kd_0 (by decide) rfl inlX5 (by decide) wd_202 rfl dX5_wave_78 ?_
    refine rg_iload (pc := 81) C 3 rfl dX5_wave_81 ?_
    obtain ⟨r7, w8, e9, hf⟩ := ra_bd hf
    refine rg_callVI (pc := 83) (As := [.ref ((zG Z).1 3), .int v4]) (st := [.int (w 4 (ra_ix v4))]) C (kX4_free (zl Z) (zG Z) C.hj k 16 3 ra_S16 ra_N3 _ _ _ _ e9) kd_16 (by decide) rfl ysX4_free rfl wd_466 ⟨Nat.le_of_ble_eq_true rfl, Nat.le_of_ble_eq_true rfl⟩ rfl (Nat.le_of_ble_eq_true rfl) dX5_wave_83 ?_
    refine rg_isub (pc := 86) C dX5_wave_86 ?_
    refine rg_istore (pc := 87) (lv' := [(0, .ref ((zG Z).1 0)), (1, .int v1), (3, .int v3), (4, .int v4), (5, .int ((w 4 (ra_ix v4)) - r7))]) C [1, 2, 3, 4, 0] rfl (by decide) dX5_wave_87 ?_
    refine rg_aload_n (pc := 89) C 0 rfl rfl dX5_wave_89 ?_
    refine rg_get (pc := 90) C 0 5 2 kd_0 (by decide) rfl inlX5 (by decide) wd_203 rfl dX5_wave_90 ?_
    refine rg_get (pc := 93) C 8 2 3 kd_8 (by decide) rfl inlX2 (by decide) wd_82 rfl dX5_wave_93 ?_
    refine rg_iload (pc := 96) C 3 rfl dX5_wave_96 ?_
    refine rg_iload_n (pc := 98) C 2 rfl rfl dX5_wave_98 ?_
    refine rg_iload (pc := 99) C 4 rfl dX5_wave_99 ?_
    refine rg_max (pc := 101) C wd_506 wd_376 wd_8 wd_377 (by decide) (Nat.le_of_ble_eq_true rfl) dX5_wave_101 ?_
    refine rg_iast (pc := 104) (j := (ra_ix v4)) C 9 kd_9 rfl g6 dX5_wave_104 ?_
    refine rg_iinc (pc := 105) (v := (v4 + 1)) (lv' := [(0, .ref ((zG Z).1 0)), (1, .int v1), (3, .int v3), (4, .int (v4 + 1)), (5, .int ((w 4 (ra_ix v4)) - r7))]) C 3 rfl [1, 2, 3, 0, 4] (ra_ii (by decide)) rfl (by decide) dX5_wave_105 ?_
    refine rg_goto (pc := 108) (tgt := 57) C dX5_wave_108 (by decide) ?_
    refine rg_sub [0, 1, 2, 3] rfl ?_
    exact ih2 _ _ _ _ _ hf
theorem tX5_wave {Z : ra_Z} {r : Int32} {w1 : ra_W} (C : ra_C Z cX5_wave 6 RX5 6 139) (hQ : ra_QI Z r w1) (hr : (zmt Z).sig.returnType = (some .int)) (k : Nat) : ∀ n : Nat, pX5_wave_0 Z r w1 k n ∧ pX5_wave_1 Z r w1 k n ∧ pX5_wave_2 Z r w1 k n := by
  intro n
  induction n with
  | zero => exact ⟨(fun _ _ _ _ _ h => by cases h), (fun _ _ _ _ _ h => by cases h), (fun _ _ _ _ _ h => by cases h)⟩
  | succ n ih =>
    obtain ⟨ih0, ih1, ih2⟩ := ih
    exact ⟨tX5_wave_0 C hQ hr k n ih1, tX5_wave_1 C hQ hr k n ih2, tX5_wave_2 C hQ hr k n ih1 ih2⟩
theorem kX5_wave (l : Launch) (G : ra_G) (hj : ra_inj G) (k : Nat) (v1 : Int32) (v2 : Int32) (w : ra_W) (r : Int32) (w1 : ra_W) (h : FX5_wave k v1 v2 w = some (r, w1)) : ra_MI l G yX5_wave cX5_wave 6 (some .int) 6 139 [.ref (G.1 0), .int v1, .int v2] w r w1 :=
  ra_entryI (own := RX5) (by decide) rfl (Nat.le_of_ble_eq_true rfl) hj (fun Z hl hG C hQ hr => by subst hl; subst hG; exact (tX5_wave C hQ hr k k).1 _ _ _ _ _ h)
theorem ysX5_wave : ra_YV yX5_wave cX5_wave 6 (some .int) 2 RX5 := ⟨⟨wd_1, wd_493, by decide, by decide, by decide⟩, wd_491, wd_492⟩
/-- java/lang/Integer.bitCount -/
def fJ6_bitCount_0f7a4 (k : Nat) : Nat → Nat → Int32 → ra_W → Option (Int32 × ra_W)
  | 0, _, _, _ => none
  | n + 1, L, v0, w => match L with
    | _ => some (((((((((v0 - (((v0.toUInt32 >>> ((1 : Int32).toUInt32 &&& Int32.toUInt32 31)).toInt32) &&& 1431655765)) &&& 858993459) + ((((v0 - (((v0.toUInt32 >>> ((1 : Int32).toUInt32 &&& Int32.toUInt32 31)).toInt32) &&& 1431655765)).toUInt32 >>> ((2 : Int32).toUInt32 &&& Int32.toUInt32 31)).toInt32) &&& 858993459)) + (((((v0 - (((v0.toUInt32 >>> ((1 : Int32).toUInt32 &&& Int32.toUInt32 31)).toInt32) &&& 1431655765)) &&& 858993459) + ((((v0 - (((v0.toUInt32 >>> ((1 : Int32).toUInt32 &&& Int32.toUInt32 31)).toInt32) &&& 1431655765)).toUInt32 >>> ((2 : Int32).toUInt32 &&& Int32.toUInt32 31)).toInt32) &&& 858993459)).toUInt32 >>> ((4 : Int32).toUInt32 &&& Int32.toUInt32 31)).toInt32)) &&& 252645135) + (((((((v0 - (((v0.toUInt32 >>> ((1 : Int32).toUInt32 &&& Int32.toUInt32 31)).toInt32) &&& 1431655765)) &&& 858993459) + ((((v0 - (((v0.toUInt32 >>> ((1 : Int32).toUInt32 &&& Int32.toUInt32 31)).toInt32) &&& 1431655765)).toUInt32 >>> ((2 : Int32).toUInt32 &&& Int32.toUInt32 31)).toInt32) &&& 858993459)) + (((((v0 - (((v0.toUInt32 >>> ((1 : Int32).toUInt32 &&& Int32.toUInt32 31)).toInt32) &&& 1431655765)) &&& 858993459) + ((((v0 - (((v0.toUInt32 >>> ((1 : Int32).toUInt32 &&& Int32.toUInt32 31)).toInt32) &&& 1431655765)).toUInt32 >>> ((2 : Int32).toUInt32 &&& Int32.toUInt32 31)).toInt32) &&& 858993459)).toUInt32 >>> ((4 : Int32).toUInt32 &&& Int32.toUInt32 31)).toInt32)) &&& 252645135).toUInt32 >>> ((8 : Int32).toUInt32 &&& Int32.toUInt32 31)).toInt32)) + ((((((((v0 - (((v0.toUInt32 >>> ((1 : Int32).toUInt32 &&& Int32.toUInt32 31)).toInt32) &&& 1431655765)) &&& 858993459) + ((((v0 - (((v0.toUInt32 >>> ((1 : Int32).toUInt32 &&& Int32.toUInt32 31)).toInt32) &&& 1431655765)).toUInt32 >>> ((2 : Int32).toUInt32 &&& Int32.toUInt32 31)).toInt32) &&& 858993459)) + (((((v0 - (((v0.toUInt32 >>> ((1 : Int32).toUInt32 &&& Int32.toUInt32 31)).toInt32) &&& 1431655765)) &&& 858993459) + ((((v0 - (((v0.toUInt32 >>> ((1 : Int32).toUInt32 &&& Int32.toUInt32 31)).toInt32) &&& 1431655765)).toUInt32 >>> ((2 : Int32).toUInt32 &&& Int32.toUInt32 31)).toInt32) &&& 858993459)).toUInt32 >>> ((4 : Int32).toUInt32 &&& Int32.toUInt32 31)).toInt32)) &&& 252645135) + (((((((v0 - (((v0.toUInt32 >>> ((1 : Int32).toUInt32 &&& Int32.toUInt32 31)).toInt32) &&& 1431655765)) &&& 858993459) + ((((v0 - (((v0.toUInt32 >>> ((1 : Int32).toUInt32 &&& Int32.toUInt32 31)).toInt32) &&& 1431655765)).toUInt32 >>> ((2 : Int32).toUInt32 &&& Int32.toUInt32 31)).toInt32) &&& 858993459)) + (((((v0 - (((v0.toUInt32 >>> ((1 : Int32).toUInt32 &&& Int32.toUInt32 31)).toInt32) &&& 1431655765)) &&& 858993459) + ((((v0 - (((v0.toUInt32 >>> ((1 : Int32).toUInt32 &&& Int32.toUInt32 31)).toInt32) &&& 1431655765)).toUInt32 >>> ((2 : Int32).toUInt32 &&& Int32.toUInt32 31)).toInt32) &&& 858993459)).toUInt32 >>> ((4 : Int32).toUInt32 &&& Int32.toUInt32 31)).toInt32)) &&& 252645135).toUInt32 >>> ((8 : Int32).toUInt32 &&& Int32.toUInt32 31)).toInt32)).toUInt32 >>> ((16 : Int32).toUInt32 &&& Int32.toUInt32 31)).toInt32)) &&& 63), w)
theorem fJ6_bitCount_0f7a4_0 (k : Nat) (n : Nat) (v0 : Int32) (w : ra_W) : fJ6_bitCount_0f7a4 k (n + 1) 0 v0 w = (some (((((((((v0 - (((v0.toUInt32 >>> ((1 : Int32).toUInt32 &&& Int32.toUInt32 31)).toInt32) &&& 1431655765)) &&& 858993459) + ((((v0 - (((v0.toUInt32 >>> ((1 : Int32).toUInt32 &&& Int32.toUInt32 31)).toInt32) &&& 1431655765)).toUInt32 >>> ((2 : Int32).toUInt32 &&& Int32.toUInt32 31)).toInt32) &&& 858993459)) + (((((v0 - (((v0.toUInt32 >>> ((1 : Int32).toUInt32 &&& Int32.toUInt32 31)).toInt32) &&& 1431655765)) &&& 858993459) + ((((v0 - (((v0.toUInt32 >>> ((1 : Int32).toUInt32 &&& Int32.toUInt32 31)).toInt32) &&& 1431655765)).toUInt32 >>> ((2 : Int32).toUInt32 &&& Int32.toUInt32 31)).toInt32) &&& 858993459)).toUInt32 >>> ((4 : Int32).toUInt32 &&& Int32.toUInt32 31)).toInt32)) &&& 252645135) + (((((((v0 - (((v0.toUInt32 >>> ((1 : Int32).toUInt32 &&& Int32.toUInt32 31)).toInt32) &&& 1431655765)) &&& 858993459) + ((((v0 - (((v0.toUInt32 >>> ((1 : Int32).toUInt32 &&& Int32.toUInt32 31)).toInt32) &&& 1431655765)).toUInt32 >>> ((2 : Int32).toUInt32 &&& Int32.toUInt32 31)).toInt32) &&& 858993459)) + (((((v0 - (((v0.toUInt32 >>> ((1 : Int32).toUInt32 &&& Int32.toUInt32 31)).toInt32) &&& 1431655765)) &&& 858993459) + ((((v0 - (((v0.toUInt32 >>> ((1 : Int32).toUInt32 &&& Int32.toUInt32 31)).toInt32) &&& 1431655765)).toUInt32 >>> ((2 : Int32).toUInt32 &&& Int32.toUInt32 31)).toInt32) &&& 858993459)).toUInt32 >>> ((4 : Int32).toUInt32 &&& Int32.toUInt32 31)).toInt32)) &&& 252645135).toUInt32 >>> ((8 : Int32).toUInt32 &&& Int32.toUInt32 31)).toInt32)) + ((((((((v0 - (((v0.toUInt32 >>> ((1 : Int32).toUInt32 &&& Int32.toUInt32 31)).toInt32) &&& 1431655765)) &&& 858993459) + ((((v0 - (((v0.toUInt32 >>> ((1 : Int32).toUInt32 &&& Int32.toUInt32 31)).toInt32) &&& 1431655765)).toUInt32 >>> ((2 : Int32).toUInt32 &&& Int32.toUInt32 31)).toInt32) &&& 858993459)) + (((((v0 - (((v0.toUInt32 >>> ((1 : Int32).toUInt32 &&& Int32.toUInt32 31)).toInt32) &&& 1431655765)) &&& 858993459) + ((((v0 - (((v0.toUInt32 >>> ((1 : Int32).toUInt32 &&& Int32.toUInt32 31)).toInt32) &&& 1431655765)).toUInt32 >>> ((2 : Int32).toUInt32 &&& Int32.toUInt32 31)).toInt32) &&& 858993459)).toUInt32 >>> ((4 : Int32).toUInt32 &&& Int32.toUInt32 31)).toInt32)) &&& 252645135) + (((((((v0 - (((v0.toUInt32 >>> ((1 : Int32).toUInt32 &&& Int32.toUInt32 31)).toInt32) &&& 1431655765)) &&& 858993459) + ((((v0 - (((v0.toUInt32 >>> ((1 : Int32).toUInt32 &&& Int32.toUInt32 31)).toInt32) &&& 1431655765)).toUInt32 >>> ((2 : Int32).toUInt32 &&& Int32.toUInt32 31)).toInt32) &&& 858993459)) + (((((v0 - (((v0.toUInt32 >>> ((1 : Int32).toUInt32 &&& Int32.toUInt32 31)).toInt32) &&& 1431655765)) &&& 858993459) + ((((v0 - (((v0.toUInt32 >>> ((1 : Int32).toUInt32 &&& Int32.toUInt32 31)).toInt32) &&& 1431655765)).toUInt32 >>> ((2 : Int32).toUInt32 &&& Int32.toUInt32 31)).toInt32) &&& 858993459)).toUInt32 >>> ((4 : Int32).toUInt32 &&& Int32.toUInt32 31)).toInt32)) &&& 252645135).toUInt32 >>> ((8 : Int32).toUInt32 &&& Int32.toUInt32 31)).toInt32)).toUInt32 >>> ((16 : Int32).toUInt32 &&& Int32.toUInt32 31)).toInt32)) &&& 63), w)) := rfl
def FJ6_bitCount_0f7a4 (k : Nat) (v0 : Int32) (w : ra_W) : Option (Int32 × ra_W) := fJ6_bitCount_0f7a4 k k 0 v0 w
def pJ6_bitCount_0f7a4_0 (Z : ra_Z) (r : Int32) (w1 : ra_W) (k : Nat) (n : Nat) : Prop := ∀ (v0 : Int32) (w : ra_W), fJ6_bitCount_0f7a4 k n 0 v0 w = some (r, w1) → ra_J Z 1 0 [(0, .int v0)] [] w
set_option maxHeartbeats 4000000 in
theorem tJ6_bitCount_0f7a4_0 {Z : ra_Z} {r : Int32} {w1 : ra_W} (C : ra_C Z cJ6_bitCount_0f7a4 1 RJ6 0 0) (hQ : ra_QI Z r w1) (hr : (zmt Z).sig.returnType = (some .int)) (k : Nat) (n : Nat) : pJ6_bitCount_0f7a4_0 Z r w1 k (n + 1) := by
  intro v0 w hf
  rw [fJ6_bitCount_0f7a4_0] at hf
  refine rg_iload_n (pc := 0) C 0 rfl rfl dJ6_bitCount_0f7a4_0 ?_
  refine rg_iload_n (pc := 1) C 0 rfl rfl dJ6_bitCount_0f7a4_1 ?_
  refine rg_iconst (pc := 2) (v := 1) C dJ6_bitCount_0f7a4_2 (by decide) ?_
  refine rg_iushr (pc := 3) C dJ6_bitCount_0f7a4_3 ?_
  refine rg_ldcw (pc := 4) C wd_522 dJ6_bitCount_0f7a4_4 ?_
  refine rg_iand (pc := 7) C dJ6_bitCount_0f7a4_7 ?_
  refine rg_isub (pc := 8) C dJ6_bitCount_0f7a4_8 ?_
  refine rg_istore_n (pc := 9) (lv' := [(0, .int (v0 - (((v0.toUInt32 >>> ((1 : Int32).toUInt32 &&& Int32.toUInt32 31)).toInt32) &&& 1431655765)))]) C [0] rfl rfl (by decide) dJ6_bitCount_0f7a4_9 ?_
  refine rg_iload_n (pc := 10) C 0 rfl rfl dJ6_bitCount_0f7a4_10 ?_
  refine rg_ldcw (pc := 11) C wd_523 dJ6_bitCount_0f7a4_11 ?_
  refine rg_iand (pc := 14) C dJ6_bitCount_0f7a4_14 ?_
  refine rg_iload_n (pc := 15) C 0 rfl rfl dJ6_bitCount_0f7a4_15 ?_
  refine rg_iconst (pc := 16) (v := 2) C dJ6_bitCount_0f7a4_16 (by decide) ?_
  refine rg_iushr (pc := 17) C dJ6_bitCount_0f7a4_17 ?_
  refine rg_ldcw (pc := 18) C wd_523 dJ6_bitCount_0f7a4_18 ?_
  refine rg_iand (pc := 21) C dJ6_bitCount_0f7a4_21 ?_
  refine rg_iadd (pc := 22) C dJ6_bitCount_0f7a4_22 ?_
  refine rg_istore_n (pc := 23) (lv' := [(0, .int (((v0 - (((v0.toUInt32 >>> ((1 : Int32).toUInt32 &&& Int32.toUInt32 31)).toInt32) &&& 1431655765)) &&& 858993459) + ((((v0 - (((v0.toUInt32 >>> ((1 : Int32).toUInt32 &&& Int32.toUInt32 31)).toInt32) &&& 1431655765)).toUInt32 >>> ((2 : Int32).toUInt32 &&& Int32.toUInt32 31)).toInt32) &&& 858993459)))]) C [0] rfl rfl (by decide) dJ6_bitCount_0f7a4_23 ?_
  refine rg_iload_n (pc := 24) C 0 rfl rfl dJ6_bitCount_0f7a4_24 ?_
  refine rg_iload_n (pc := 25) C 0 rfl rfl dJ6_bitCount_0f7a4_25 ?_
  refine rg_iconst (pc := 26) (v := 4) C dJ6_bitCount_0f7a4_26 (by decide) ?_
  refine rg_iushr (pc := 27) C dJ6_bitCount_0f7a4_27 ?_
  refine rg_iadd (pc := 28) C dJ6_bitCount_0f7a4_28 ?_
  refine rg_ldcw (pc := 29) C wd_524 dJ6_bitCount_0f7a4_29 ?_
  refine rg_iand (pc := 32) C dJ6_bitCount_0f7a4_32 ?_
  refine rg_istore_n (pc := 33) (lv' := [(0, .int (((((v0 - (((v0.toUInt32 >>> ((1 : Int32).toUInt32 &&& Int32.toUInt32 31)).toInt32) &&& 1431655765)) &&& 858993459) + ((((v0 - (((v0.toUInt32 >>> ((1 : Int32).toUInt32 &&& Int32.toUInt32 31)).toInt32) &&& 1431655765)).toUInt32 >>> ((2 : Int32).toUInt32 &&& Int32.toUInt32 31)).toInt32) &&& 858993459)) + (((((v0 - (((v0.toUInt32 >>> ((1 : Int32).toUInt32 &&& Int32.toUInt32 31)).toInt32) &&& 1431655765)) &&& 858993459) + ((((v0 - (((v0.toUInt32 >>> ((1 : Int32).toUInt32 &&& Int32.toUInt32 31)).toInt32) &&& 1431655765)).toUInt32 >>> ((2 : Int32).toUInt32 &&& Int32.toUInt32 31)).toInt32) &&& 858993459)).toUInt32 >>> ((4 : Int32).toUInt32 &&& Int32.toUInt32 31)).toInt32)) &&& 252645135))]) C [0] rfl rfl (by decide) dJ6_bitCount_0f7a4_33 ?_
  refine rg_iload_n (pc := 34) C 0 rfl rfl dJ6_bitCount_0f7a4_34 ?_
  refine rg_iload_n (pc := 35) C 0 rfl rfl dJ6_bitCount_0f7a4_35 ?_
  refine rg_bipush (pc := 36) (v := 8) C dJ6_bitCount_0f7a4_36 (by decide) ?_
  refine rg_iushr (pc := 38) C dJ6_bitCount_0f7a4_38 ?_
  refine rg_iadd (pc := 39) C dJ6_bitCount_0f7a4_39 ?_
  refine rg_istore_n (pc := 40) (lv' := [(0, .int ((((((v0 - (((v0.toUInt32 >>> ((1 : Int32).toUInt32 &&& Int32.toUInt32 31)).toInt32) &&& 1431655765)) &&& 858993459) + ((((v0 - (((v0.toUInt32 >>> ((1 : Int32).toUInt32 &&& Int32.toUInt32 31)).toInt32) &&& 1431655765)).toUInt32 >>> ((2 : Int32).toUInt32 &&& Int32.toUInt32 31)).toInt32) &&& 858993459)) + (((((v0 - (((v0.toUInt32 >>> ((1 : Int32).toUInt32 &&& Int32.toUInt32 31)).toInt32) &&& 1431655765)) &&& 858993459) + ((((v0 - (((v0.toUInt32 >>> ((1 : Int32).toUInt32 &&& Int32.toUInt32 31)).toInt32) &&& 1431655765)).toUInt32 >>> ((2 : Int32).toUInt32 &&& Int32.toUInt32 31)).toInt32) &&& 858993459)).toUInt32 >>> ((4 : Int32).toUInt32 &&& Int32.toUInt32 31)).toInt32)) &&& 252645135) + (((((((v0 - (((v0.toUInt32 >>> ((1 : Int32).toUInt32 &&& Int32.toUInt32 31)).toInt32) &&& 1431655765)) &&& 858993459) + ((((v0 - (((v0.toUInt32 >>> ((1 : Int32).toUInt32 &&& Int32.toUInt32 31)).toInt32) &&& 1431655765)).toUInt32 >>> ((2 : Int32).toUInt32 &&& Int32.toUInt32 31)).toInt32) &&& 858993459)) + (((((v0 - (((v0.toUInt32 >>> ((1 : Int32).toUInt32 &&& Int32.toUInt32 31)).toInt32) &&& 1431655765)) &&& 858993459) + ((((v0 - (((v0.toUInt32 >>> ((1 : Int32).toUInt32 &&& Int32.toUInt32 31)).toInt32) &&& 1431655765)).toUInt32 >>> ((2 : Int32).toUInt32 &&& Int32.toUInt32 31)).toInt32) &&& 858993459)).toUInt32 >>> ((4 : Int32).toUInt32 &&& Int32.toUInt32 31)).toInt32)) &&& 252645135).toUInt32 >>> ((8 : Int32).toUInt32 &&& Int32.toUInt32 31)).toInt32)))]) C [0] rfl rfl (by decide) dJ6_bitCount_0f7a4_40 ?_
  refine rg_iload_n (pc := 41) C 0 rfl rfl dJ6_bitCount_0f7a4_41 ?_
  refine rg_iload_n (pc := 42) C 0 rfl rfl dJ6_bitCount_0f7a4_42 ?_
  refine rg_bipush (pc := 43) (v := 16) C dJ6_bitCount_0f7a4_43 (by decide) ?_
  refine rg_iushr (pc := 45) C dJ6_bitCount_0f7a4_45 ?_
  refine rg_iadd (pc := 46) C dJ6_bitCount_0f7a4_46 ?_
  refine rg_istore_n (pc := 47) (lv' := [(0, .int (((((((v0 - (((v0.toUInt32 >>> ((1 : Int32).toUInt32 &&& Int32.toUInt32 31)).toInt32) &&& 1431655765)) &&& 858993459) + ((((v0 - (((v0.toUInt32 >>> ((1 : Int32).toUInt32 &&& Int32.toUInt32 31)).toInt32) &&& 1431655765)).toUInt32 >>> ((2 : Int32).toUInt32 &&& Int32.toUInt32 31)).toInt32) &&& 858993459)) + (((((v0 - (((v0.toUInt32 >>> ((1 : Int32).toUInt32 &&& Int32.toUInt32 31)).toInt32) &&& 1431655765)) &&& 858993459) + ((((v0 - (((v0.toUInt32 >>> ((1 : Int32).toUInt32 &&& Int32.toUInt32 31)).toInt32) &&& 1431655765)).toUInt32 >>> ((2 : Int32).toUInt32 &&& Int32.toUInt32 31)).toInt32) &&& 858993459)).toUInt32 >>> ((4 : Int32).toUInt32 &&& Int32.toUInt32 31)).toInt32)) &&& 252645135) + (((((((v0 - (((v0.toUInt32 >>> ((1 : Int32).toUInt32 &&& Int32.toUInt32 31)).toInt32) &&& 1431655765)) &&& 858993459) + ((((v0 - (((v0.toUInt32 >>> ((1 : Int32).toUInt32 &&& Int32.toUInt32 31)).toInt32) &&& 1431655765)).toUInt32 >>> ((2 : Int32).toUInt32 &&& Int32.toUInt32 31)).toInt32) &&& 858993459)) + (((((v0 - (((v0.toUInt32 >>> ((1 : Int32).toUInt32 &&& Int32.toUInt32 31)).toInt32) &&& 1431655765)) &&& 858993459) + ((((v0 - (((v0.toUInt32 >>> ((1 : Int32).toUInt32 &&& Int32.toUInt32 31)).toInt32) &&& 1431655765)).toUInt32 >>> ((2 : Int32).toUInt32 &&& Int32.toUInt32 31)).toInt32) &&& 858993459)).toUInt32 >>> ((4 : Int32).toUInt32 &&& Int32.toUInt32 31)).toInt32)) &&& 252645135).toUInt32 >>> ((8 : Int32).toUInt32 &&& Int32.toUInt32 31)).toInt32)) + ((((((((v0 - (((v0.toUInt32 >>> ((1 : Int32).toUInt32 &&& Int32.toUInt32 31)).toInt32) &&& 1431655765)) &&& 858993459) + ((((v0 - (((v0.toUInt32 >>> ((1 : Int32).toUInt32 &&& Int32.toUInt32 31)).toInt32) &&& 1431655765)).toUInt32 >>> ((2 : Int32).toUInt32 &&& Int32.toUInt32 31)).toInt32) &&& 858993459)) + (((((v0 - (((v0.toUInt32 >>> ((1 : Int32).toUInt32 &&& Int32.toUInt32 31)).toInt32) &&& 1431655765)) &&& 858993459) + ((((v0 - (((v0.toUInt32 >>> ((1 : Int32).toUInt32 &&& Int32.toUInt32 31)).toInt32) &&& 1431655765)).toUInt32 >>> ((2 : Int32).toUInt32 &&& Int32.toUInt32 31)).toInt32) &&& 858993459)).toUInt32 >>> ((4 : Int32).toUInt32 &&& Int32.toUInt32 31)).toInt32)) &&& 252645135) + (((((((v0 - (((v0.toUInt32 >>> ((1 : Int32).toUInt32 &&& Int32.toUInt32 31)).toInt32) &&& 1431655765)) &&& 858993459) + ((((v0 - (((v0.toUInt32 >>> ((1 : Int32).toUInt32 &&& Int32.toUInt32 31)).toInt32) &&& 1431655765)).toUInt32 >>> ((2 : Int32).toUInt32 &&& Int32.toUInt32 31)).toInt32) &&& 858993459)) + (((((v0 - (((v0.toUInt32 >>> ((1 : Int32).toUInt32 &&& Int32.toUInt32 31)).toInt32) &&& 1431655765)) &&& 858993459) + ((((v0 - (((v0.toUInt32 >>> ((1 : Int32).toUInt32 &&& Int32.toUInt32 31)).toInt32) &&& 1431655765)).toUInt32 >>> ((2 : Int32).toUInt32 &&& Int32.toUInt32 31)).toInt32) &&& 858993459)).toUInt32 >>> ((4 : Int32).toUInt32 &&& Int32.toUInt32 31)).toInt32)) &&& 252645135).toUInt32 >>> ((8 : Int32).toUInt32 &&& Int32.toUInt32 31)).toInt32)).toUInt32 >>> ((16 : Int32).toUInt32 &&& Int32.toUInt32 31)).toInt32)))]) C [0] rfl rfl (by decide) dJ6_bitCount_0f7a4_47 ?_
  refine rg_iload_n (pc := 48) C 0 rfl rfl dJ6_bitCount_0f7a4_48 ?_
  refine rg_bipush (pc := 49) (v := 63) C dJ6_bitCount_0f7a4_49 (by decide) ?_
  refine rg_iand (pc := 51) C dJ6_bitCount_0f7a4_51 ?_
  exact rg_iret (pc := 52) C hQ hr hf dJ6_bitCount_0f7a4_52
theorem tJ6_bitCount_0f7a4 {Z : ra_Z} {r : Int32} {w1 : ra_W} (C : ra_C Z cJ6_bitCount_0f7a4 1 RJ6 0 0) (hQ : ra_QI Z r w1) (hr : (zmt Z).sig.returnType = (some .int)) (k : Nat) : ∀ n : Nat, pJ6_bitCount_0f7a4_0 Z r w1 k n := by
  intro n
  induction n with
  | zero => exact (fun _ _ h => by cases h)
  | succ n ih => exact tJ6_bitCount_0f7a4_0 C hQ hr k n
theorem kJ6_bitCount_0f7a4 (l : Launch) (G : ra_G) (hj : ra_inj G) (k : Nat) (v0 : Int32) (w : ra_W) (r : Int32) (w1 : ra_W) (h : FJ6_bitCount_0f7a4 k v0 w = some (r, w1)) : ra_MI l G yJ6_bitCount_0f7a4 cJ6_bitCount_0f7a4 1 (some .int) 0 0 [.int v0] w r w1 :=
  ra_entryI (own := RJ6) (by decide) rfl (Nat.le_of_ble_eq_true rfl) hj (fun Z hl hG C hQ hr => by subst hl; subst hG; exact (tJ6_bitCount_0f7a4 C hQ hr k k) _ _ h)
theorem ysJ6_bitCount_0f7a4 : ra_YS yJ6_bitCount_0f7a4 cJ6_bitCount_0f7a4 1 (some .int) 1 := ⟨⟨wd_10, wd_521, by decide, by decide, by decide⟩, wd_520⟩
/-- TrunkRadio.power -/
def fX5_power (k : Nat) : Nat → Nat → Int32 → Int32 → Int32 → Int32 → ra_W → Option (Int32 × ra_W)
  | 0, _, _, _, _, _, _ => none
  | n + 1, L, v0, v1, v2, v3, w => match L with
    | 0 => fX5_power k n 1 v0 v1 1 0 w
    | _ => if v1 ≤ v3 then (some (v2, w)) else (if 7 ≤ v3 then (some (v2, w)) else (fX5_power k n 1 v0 v1 (v2 * v0) (v3 + 1) w))
theorem fX5_power_0 (k : Nat) (n : Nat) (v0 : Int32) (v1 : Int32) (v2 : Int32) (v3 : Int32) (w : ra_W) : fX5_power k (n + 1) 0 v0 v1 v2 v3 w = (fX5_power k n 1 v0 v1 1 0 w) := rfl
theorem fX5_power_1 (k : Nat) (n : Nat) (v0 : Int32) (v1 : Int32) (v2 : Int32) (v3 : Int32) (w : ra_W) : fX5_power k (n + 1) 1 v0 v1 v2 v3 w = (if v1 ≤ v3 then (some (v2, w)) else (if 7 ≤ v3 then (some (v2, w)) else (fX5_power k n 1 v0 v1 (v2 * v0) (v3 + 1) w))) := rfl
def FX5_power (k : Nat) (v0 : Int32) (v1 : Int32) (w : ra_W) : Option (Int32 × ra_W) := fX5_power k k 0 v0 v1 0 0 w
def pX5_power_0 (Z : ra_Z) (r : Int32) (w1 : ra_W) (k : Nat) (n : Nat) : Prop := ∀ (v0 : Int32) (v1 : Int32) (v2 : Int32) (v3 : Int32) (w : ra_W), fX5_power k n 0 v0 v1 v2 v3 w = some (r, w1) → ra_J Z 4 0 [(0, .int v0), (1, .int v1)] [] w
def pX5_power_1 (Z : ra_Z) (r : Int32) (w1 : ra_W) (k : Nat) (n : Nat) : Prop := ∀ (v0 : Int32) (v1 : Int32) (v2 : Int32) (v3 : Int32) (w : ra_W), fX5_power k n 1 v0 v1 v2 v3 w = some (r, w1) → ra_J Z 4 4 [(0, .int v0), (1, .int v1), (2, .int v2), (3, .int v3)] [] w
set_option maxHeartbeats 4000000 in
theorem tX5_power_0 {Z : ra_Z} {r : Int32} {w1 : ra_W} (C : ra_C Z cX5_power 4 RX5 0 0) (hQ : ra_QI Z r w1) (hr : (zmt Z).sig.returnType = (some .int)) (k : Nat) (n : Nat) (ih1 : pX5_power_1 Z r w1 k n) : pX5_power_0 Z r w1 k (n + 1) := by
  intro v0 v1 v2 v3 w hf
  rw [fX5_power_0] at hf
  refine rg_iconst (pc := 0) (v := 1) C dX5_power_0 (by decide) ?_
  refine rg_istore_n (pc := 1) (lv' := [(0, .int v0), (1, .int v1), (2, .int 1)]) C [1, 2, 0] rfl rfl (by decide) dX5_power_1 ?_
  refine rg_iconst (pc := 2) (v := 0) C dX5_power_2 (by decide) ?_
  refine rg_istore_n (pc := 3) (lv' := [(0, .int v0), (1, .int v1), (2, .int 1), (3, .int 0)]) C [1, 2, 3, 0] rfl rfl (by decide) dX5_power_3 ?_
  exact ih1 _ _ _ _ _ hf
set_option maxHeartbeats 4000000 in
theorem tX5_power_1 {Z : ra_Z} {r : Int32} {w1 : ra_W} (C : ra_C Z cX5_power 4 RX5 0 0) (hQ : ra_QI Z r w1) (hr : (zmt Z).sig.returnType = (some .int)) (k : Nat) (n : Nat) (ih1 : pX5_power_1 Z r w1 k n) : pX5_power_1 Z r w1 k (n + 1) := by
  intro v0 v1 v2 v3 w hf
  rw [fX5_power_1] at hf
  refine rg_iload_n (pc := 4) C 3 rfl rfl dX5_power_4 ?_
  refine rg_iload_n (pc := 5) C 1 rfl rfl dX5_power_5 ?_
  refine rg_icmp_ge (pc := 6) (tgt := 25) C dX5_power_6 (by decide) (fun c1 => ?_) (fun c1 => ?_)
  · replace hf := ra_t hf c1
    refine rg_iload_n (pc := 25) C 2 rfl rfl dX5_power_25 ?_
    exact rg_iret (pc := 26) C hQ hr hf dX5_power_26
  · replace hf := ra_f hf c1
    refine rg_iload_n (pc := 9) C 3 rfl rfl dX5_power_9 ?_
    refine rg_bipush (pc := 10) (v := 7) C dX5_power_10 (by decide) ?_
    refine rg_icmp_ge (pc := 12) (tgt := 25) C dX5_power_12 (by decide) (fun c2 => ?_) (fun c2 => ?_)
    · replace hf := ra_t hf c2
      refine rg_iload_n (pc := 25) C 2 rfl rfl dX5_power_25 ?_
      exact rg_iret (pc := 26) C hQ hr hf dX5_power_26
    · replace hf := ra_f hf c2
      refine rg_iload_n (pc := 15) C 2 rfl rfl dX5_power_15 ?_
      refine rg_iload_n (pc := 16) C 0 rfl rfl dX5_power_16 ?_
      refine rg_imul (pc := 17) C dX5_power_17 ?_
      refine rg_istore_n (pc := 18) (lv' := [(0, .int v0), (1, .int v1), (2, .int (v2 * v0)), (3, .int v3)]) C [1, 2, 0, 3] rfl rfl (by decide) dX5_power_18 ?_
      refine rg_iinc (pc := 19) (v := (v3 + 1)) (lv' := [(0, .int v0), (1, .int v1), (2, .int (v2 * v0)), (3, .int (v3 + 1))]) C 3 rfl [1, 2, 3, 0] (ra_ii (by decide)) rfl (by decide) dX5_power_19 ?_
      refine rg_goto (pc := 22) (tgt := 4) C dX5_power_22 (by decide) ?_
      exact ih1 _ _ _ _ _ hf
theorem tX5_power {Z : ra_Z} {r : Int32} {w1 : ra_W} (C : ra_C Z cX5_power 4 RX5 0 0) (hQ : ra_QI Z r w1) (hr : (zmt Z).sig.returnType = (some .int)) (k : Nat) : ∀ n : Nat, pX5_power_0 Z r w1 k n ∧ pX5_power_1 Z r w1 k n := by
  intro n
  induction n with
  | zero => exact ⟨(fun _ _ _ _ _ h => by cases h), (fun _ _ _ _ _ h => by cases h)⟩
  | succ n ih =>
    obtain ⟨ih0, ih1⟩ := ih
    exact ⟨tX5_power_0 C hQ hr k n ih1, tX5_power_1 C hQ hr k n ih1⟩
theorem kX5_power (l : Launch) (G : ra_G) (hj : ra_inj G) (k : Nat) (v0 : Int32) (v1 : Int32) (w : ra_W) (r : Int32) (w1 : ra_W) (h : FX5_power k v0 v1 w = some (r, w1)) : ra_MI l G yX5_power cX5_power 4 (some .int) 0 0 [.int v0, .int v1] w r w1 :=
  ra_entryI (own := RX5) (by decide) rfl (Nat.le_of_ble_eq_true rfl) hj (fun Z hl hG C hQ hr => by subst hl; subst hG; exact (tX5_power C hQ hr k k).1 _ _ _ _ _ h)
theorem ysX5_power : ra_YS yX5_power cX5_power 4 (some .int) 2 := ⟨⟨wd_1, wd_527, by decide, by decide, by decide⟩, wd_526⟩
/-- TrunkRadio.talksAmong -/
def fX5_talksAmong (k : Nat) : Nat → Nat → Int32 → Int32 → Int32 → Int32 → ra_W → Option (Int32 × ra_W)
  | 0, _, _, _, _, _, _ => none
  | n + 1, L, v1, v2, v3, v4, w => match L with
    | 0 => ra_bind (FX4_copy k 23 16 w) (fun _ w2 => ra_bind (FX4_pressIdle k 23 3 (v1 ||| (1 <<< (v2 &&& 31))) w2) (fun _ w5 => fX5_talksAmong k n 1 0 v2 v3 0 w5))
    | _ => if v3 ≤ v4 then (some (0, w)) else (if ra_in v2 7 then if (w 25 (ra_ix v2)) = 0 then (some (0, w)) else (ra_bind (FX0_pass k 3 23 w) (fun _ w5 => ra_bind (FX4_isOnAir k 23 v2 w5) (fun r7 w8 => if r7 = 0 then (fX5_talksAmong k n 1 0 v2 v3 (v4 + 1) w8) else (some (1, w8))))) else none)
theorem fX5_talksAmong_0 (k : Nat) (n : Nat) (v1 : Int32) (v2 : Int32) (v3 : Int32) (v4 : Int32) (w : ra_W) : fX5_talksAmong k (n + 1) 0 v1 v2 v3 v4 w = (ra_bind (FX4_copy k 23 16 w) (fun _ w2 => ra_bind (FX4_pressIdle k 23 3 (v1 ||| (1 <<< (v2 &&& 31))) w2) (fun _ w5 => fX5_talksAmong k n 1 0 v2 v3 0 w5))) := rfl
theorem fX5_talksAmong_1 (k : Nat) (n : Nat) (v1 : Int32) (v2 : Int32) (v3 : Int32) (v4 : Int32) (w : ra_W) : fX5_talksAmong k (n + 1) 1 v1 v2 v3 v4 w = (if v3 ≤ v4 then (some (0, w)) else (if ra_in v2 7 then if (w 25 (ra_ix v2)) = 0 then (some (0, w)) else (ra_bind (FX0_pass k 3 23 w) (fun _ w5 => ra_bind (FX4_isOnAir k 23 v2 w5) (fun r7 w8 => if r7 = 0 then (fX5_talksAmong k n 1 0 v2 v3 (v4 + 1) w8) else (some (1, w8))))) else none)) := rfl
def FX5_talksAmong (k : Nat) (v1 : Int32) (v2 : Int32) (v3 : Int32) (w : ra_W) : Option (Int32 × ra_W) := fX5_talksAmong k k 0 v1 v2 v3 0 w
def pX5_talksAmong_0 (Z : ra_Z) (r : Int32) (w1 : ra_W) (k : Nat) (n : Nat) : Prop := ∀ (v1 : Int32) (v2 : Int32) (v3 : Int32) (v4 : Int32) (w : ra_W), fX5_talksAmong k n 0 v1 v2 v3 v4 w = some (r, w1) → ra_J Z 5 0 [(0, .ref ((zG Z).1 0)), (1, .int v1), (2, .int v2), (3, .int v3)] [] w
def pX5_talksAmong_1 (Z : ra_Z) (r : Int32) (w1 : ra_W) (k : Nat) (n : Nat) : Prop := ∀ (v1 : Int32) (v2 : Int32) (v3 : Int32) (v4 : Int32) (w : ra_W), fX5_talksAmong k n 1 v1 v2 v3 v4 w = some (r, w1) → ra_J Z 5 30 [(0, .ref ((zG Z).1 0)), (2, .int v2), (3, .int v3), (4, .int v4)] [] w
set_option maxHeartbeats 4000000 in
theorem tX5_talksAmong_0 {Z : ra_Z} {r : Int32} {w1 : ra_W} (C : ra_C Z cX5_talksAmong 5 RX5 5 117) (hQ : ra_QI Z r w1) (hr : (zmt Z).sig.returnType = (some .boolean)) (k : Nat) (n : Nat) (ih1 : pX5_talksAmong_1 Z r w1 k n) : pX5_talksAmong_0 Z r w1 k (n + 1) := by
  intro v1 v2 v3 v4 w hf
  rw [fX5_talksAmong_0] at hf
  refine rg_aload_n (pc := 0) C 0 rfl rfl dX5_talksAmong_0 ?_
  refine rg_get (pc := 1) C 0 5 5 kd_0 (by decide) rfl inlX5 (by decide) wd_206 rfl dX5_talksAmong_1 ?_
  refine rg_aload_n (pc := 4) C 0 rfl rfl dX5_talksAmong_4 ?_
  refine rg_get (pc := 5) C 0 5 4 kd_0 (by decide) rfl inlX5 (by decide) wd_205 rfl dX5_talksAmong_5 ?_
  obtain ⟨r1, w2, e3, hf⟩ := ra_bd hf
  refine rg_callVV (pc := 8) (As := [.ref ((zG Z).1 16)]) (st := []) C (kX4_copy (zl Z) (zG Z) C.hj k 23 16 ra_S23 ra_S16 _ _ _ e3) kd_23 (by decide) rfl ysX4_copy rfl wd_484 ⟨Nat.le_of_ble_eq_true rfl, Nat.le_of_ble_eq_true rfl⟩ rfl (Nat.le_of_ble_eq_true rfl) dX5_talksAmong_8 ?_
  refine rg_aload_n (pc := 11) C 0 rfl rfl dX5_talksAmong_11 ?_
  refine rg_get (pc := 12) C 0 5 5 kd_0 (by decide) rfl inlX5 (by decide) wd_206 rfl dX5_talksAmong_12 ?_
  refine rg_aload_n (pc := 15) C 0 rfl rfl dX5_talksAmong_15 ?_
  refine rg_get (pc := 16) C 0 5 1 kd_0 (by decide) rfl inlX5 (by decide) wd_202 rfl dX5_talksAmong_16 ?_
  refine rg_iload_n (pc := 19) C 1 rfl rfl dX5_talksAmong_19 ?_
  refine rg_iconst (pc := 20) (v := 1) C dX5_talksAmong_20 (by decide) ?_
  refine rg_iload_n (pc := 21) C 2 rfl rfl dX5_talksAmong_21 ?_
  refine rg_ishl (pc := 22) C dX5_talksAmong_22 ?_
  refine rg_ior (pc := 23) C dX5_talksAmong_23 ?_
  obtain ⟨r4, w5, e6, hf⟩ := ra_bd hf
  refine rg_callVV (pc := 24) (As := [.ref ((zG Z).1 3), .int (v1 ||| (1 <<< (v2 &&& 31)))]) (st := []) C (kX4_pressIdle (zl Z) (zG Z) C.hj k 23 3 ra_S23 ra_N3 _ _ _ _ e6) kd_23 (by decide) rfl ysX4_pressIdle rfl wd_498 ⟨Nat.le_of_ble_eq_true rfl, Nat.le_of_ble_eq_true rfl⟩ rfl (Nat.le_of_ble_eq_true rfl) dX5_talksAmong_24 ?_
  refine rg_iconst (pc := 27) (v := 0) C dX5_talksAmong_27 (by decide) ?_
  refine rg_istore (pc := 28) (lv' := [(0, .ref ((zG Z).1 0)), (1, .int v1), (2, .int v2), (3, .int v3), (4, .int 0)]) C [1, 2, 3, 4, 0] rfl (by decide) dX5_talksAmong_28 ?_
  refine rg_sub [0, 2, 3, 4] rfl ?_
  exact ih1 _ _ _ _ _ hf
set_option maxHeartbeats 4000000 in
theorem tX5_talksAmong_1 {Z : ra_Z} {r : Int32} {w1 : ra_W} (C : ra_C Z cX5_talksAmong 5 RX5 5 117) (hQ : ra_QI Z r w1) (hr : (zmt Z).sig.returnType = (some .boolean)) (k : Nat) (n : Nat) (ih1 : pX5_talksAmong_1 Z r w1 k n) : pX5_talksAmong_1 Z r w1 k (n + 1) := by
  intro v1 v2 v3 v4 w hf
  rw [fX5_talksAmong_1] at hf
  refine rg_iload (pc := 30) C 3 rfl dX5_talksAmong_30 ?_
  refine rg_iload_n (pc := 32) C 2 rfl rfl dX5_talksAmong_32 ?_
  refine rg_icmp_ge (pc := 33) (tgt := 82) C dX5_talksAmong_33 (by decide) (fun c1 => ?_) (fun c1 => ?_)
  · replace hf := ra_t hf c1
    refine rg_iconst (pc := 82) (v := 0) C dX5_talksAmong_82 (by decide) ?_
    exact rg_zret (pc := 83) C hQ hr (by decide) hf dX5_talksAmong_83
  · replace hf := ra_f hf c1
    refine rg_aload_n (pc := 36) C 0 rfl rfl dX5_talksAmong_36 ?_
    refine rg_get (pc := 37) C 0 5 5 kd_0 (by decide) rfl inlX5 (by decide) wd_206 rfl dX5_talksAmong_37 ?_
    refine rg_get (pc := 40) C 23 4 1 kd_23 (by decide) rfl inlX4 (by decide) wd_135 rfl dX5_talksAmong_40 ?_
    refine rg_iload_n (pc := 43) C 1 rfl rfl dX5_talksAmong_43 ?_
    obtain ⟨g2, hf⟩ := ra_gd hf
    refine rg_iald (pc := 44) (j := (ra_ix v2)) C 25 kd_25 rfl g2 dX5_talksAmong_44 ?_
    refine rg_if_eq (pc := 45) (tgt := 82) C dX5_talksAmong_45 (by decide) (fun c3 => ?_) (fun c3 => ?_)
    · replace hf := ra_t hf c3
      refine rg_iconst (pc := 82) (v := 0) C dX5_talksAmong_82 (by decide) ?_
      exact rg_zret (pc := 83) C hQ hr (by decide) hf dX5_talksAmong_83
    · replace hf := ra_f hf c3
      refine rg_aload_n (pc := 48) C 0 rfl rfl dX5_talksAmong_48 ?_
      refine rg_get (pc := 49) C 0 5 3 kd_0 (by decide) rfl inlX5 (by decide) wd_204 rfl dX5_talksAmong_49 ?_
      refine rg_aload_n (pc := 52) C 0 rfl rfl dX5_talksAmong_52 ?_
      refine rg_get (pc := 53) C 0 5 1 kd_0 (by decide) rfl inlX5 (by decide) wd_202 rfl dX5_talksAmong_53 ?_
      refine rg_aload_n (pc := 56) C 0 rfl rfl dX5_talksAmong_56 ?_
      refine rg_get (pc := 57) C 0 5 5 kd_0 (by decide) rfl inlX5 (by decide) wd_206 rfl dX5_talksAmong_57 ?_
      obtain ⟨r4, w5, e6, hf⟩ := ra_bd hf
      refine rg_callVV (pc := 60) (As := [.ref ((zG Z).1 3), .ref ((zG Z).1 23)]) (st := []) C (kX0_pass (zl Z) (zG Z) C.hj k 3 23 ra_N3 ra_S23 _ _ _ e6) kd_13 (by decide) rfl ysX0_pass rfl wd_349 ⟨Nat.le_of_ble_eq_true rfl, Nat.le_of_ble_eq_true rfl⟩ rfl (Nat.le_of_ble_eq_true rfl) dX5_talksAmong_60 ?_
      refine rg_aload_n (pc := 63) C 0 rfl rfl dX5_talksAmong_63 ?_
      refine rg_get (pc := 64) C 0 5 5 kd_0 (by decide) rfl inlX5 (by decide) wd_206 rfl dX5_talksAmong_64 ?_
      refine rg_iload_n (pc := 67) C 1 rfl rfl dX5_talksAmong_67 ?_
      obtain ⟨r7, w8, e9, hf⟩ := ra_bd hf
      refine rg_callVI (pc := 68) (As := [.int v2]) (st := []) C (kX4_isOnAir (zl Z) (zG Z) C.hj k 23 ra_S23 _ _ _ _ e9) kd_23 (by decide) rfl ysX4_isOnAir rfl wd_417 ⟨Nat.le_of_ble_eq_true rfl, Nat.le_of_ble_eq_true rfl⟩ rfl (Nat.le_of_ble_eq_true rfl) dX5_talksAmong_68 ?_
      refine rg_if_eq (pc := 71) (tgt := 76) C dX5_talksAmong_71 (by decide) (fun c10 => ?_) (fun c10 => ?_)
      · replace hf := ra_t hf c10
        refine rg_iinc (pc := 76) (v := (v4 + 1)) (lv' := [(0, .ref ((zG Z).1 0)), (2, .int v2), (3, .int v3), (4, .int (v4 + 1))]) C 3 rfl [1, 2, 3, 0] (ra_ii (by decide)) rfl (by decide) dX5_talksAmong_76 ?_
        refine rg_goto (pc := 79) (tgt := 30) C dX5_talksAmong_79 (by decide) ?_
        exact ih1 _ _ _ _ _ hf
      · replace hf := ra_f hf c10
        refine rg_iconst (pc := 74) (v := 1) C dX5_talksAmong_74 (by decide) ?_
        exact rg_zret (pc := 75) C hQ hr (by decide) hf dX5_talksAmong_75
theorem tX5_talksAmong {Z : ra_Z} {r : Int32} {w1 : ra_W} (C : ra_C Z cX5_talksAmong 5 RX5 5 117) (hQ : ra_QI Z r w1) (hr : (zmt Z).sig.returnType = (some .boolean)) (k : Nat) : ∀ n : Nat, pX5_talksAmong_0 Z r w1 k n ∧ pX5_talksAmong_1 Z r w1 k n := by
  intro n
  induction n with
  | zero => exact ⟨(fun _ _ _ _ _ h => by cases h), (fun _ _ _ _ _ h => by cases h)⟩
  | succ n ih =>
    obtain ⟨ih0, ih1⟩ := ih
    exact ⟨tX5_talksAmong_0 C hQ hr k n ih1, tX5_talksAmong_1 C hQ hr k n ih1⟩
theorem kX5_talksAmong (l : Launch) (G : ra_G) (hj : ra_inj G) (k : Nat) (v1 : Int32) (v2 : Int32) (v3 : Int32) (w : ra_W) (r : Int32) (w1 : ra_W) (h : FX5_talksAmong k v1 v2 v3 w = some (r, w1)) : ra_MI l G yX5_talksAmong cX5_talksAmong 5 (some .boolean) 5 117 [.ref (G.1 0), .int v1, .int v2, .int v3] w r w1 :=
  ra_entryI (own := RX5) (by decide) rfl (Nat.le_of_ble_eq_true rfl) hj (fun Z hl hG C hQ hr => by subst hl; subst hG; exact (tX5_talksAmong C hQ hr k k).1 _ _ _ _ _ h)
theorem ysX5_talksAmong : ra_YV yX5_talksAmong cX5_talksAmong 5 (some .boolean) 3 RX5 := ⟨⟨wd_1, wd_531, by decide, by decide, by decide⟩, wd_530, wp_14⟩
/-- TrunkRadio.commonDivisor -/
def fX5_commonDivisor (k : Nat) : Nat → Nat → Int32 → Int32 → Int32 → Int32 → Int32 → ra_W → Option (Int32 × ra_W)
  | 0, _, _, _, _, _, _, _ => none
  | n + 1, L, v0, v1, v2, v3, v4, w => match L with
    | 0 => fX5_commonDivisor k n 1 0 0 v0 v1 0 w
    | 1 => if 64 ≤ v4 then (fX5_commonDivisor k n 2 0 0 v2 0 0 w) else (if v3 = 0 then (fX5_commonDivisor k n 2 0 0 v2 0 0 w) else (if ¬ v3 = 0 then fX5_commonDivisor k n 1 0 0 v3 (v2 - v2 / v3 * v3) (v4 + 1) w else none))
    | _ => some ((if 1 < v2 then v2 else 1), w)
theorem fX5_commonDivisor_0 (k : Nat) (n : Nat) (v0 : Int32) (v1 : Int32) (v2 : Int32) (v3 : Int32) (v4 : Int32) (w : ra_W) : fX5_commonDivisor k (n + 1) 0 v0 v1 v2 v3 v4 w = (fX5_commonDivisor k n 1 0 0 v0 v1 0 w) := rfl
theorem fX5_commonDivisor_1 (k : Nat) (n : Nat) (v0 : Int32) (v1 : Int32) (v2 : Int32) (v3 : Int32) (v4 : Int32) (w : ra_W) : fX5_commonDivisor k (n + 1) 1 v0 v1 v2 v3 v4 w = (if 64 ≤ v4 then (fX5_commonDivisor k n 2 0 0 v2 0 0 w) else (if v3 = 0 then (fX5_commonDivisor k n 2 0 0 v2 0 0 w) else (if ¬ v3 = 0 then fX5_commonDivisor k n 1 0 0 v3 (v2 - v2 / v3 * v3) (v4 + 1) w else none))) := rfl
theorem fX5_commonDivisor_2 (k : Nat) (n : Nat) (v0 : Int32) (v1 : Int32) (v2 : Int32) (v3 : Int32) (v4 : Int32) (w : ra_W) : fX5_commonDivisor k (n + 1) 2 v0 v1 v2 v3 v4 w = (some ((if 1 < v2 then v2 else 1), w)) := rfl
def FX5_commonDivisor (k : Nat) (v0 : Int32) (v1 : Int32) (w : ra_W) : Option (Int32 × ra_W) := fX5_commonDivisor k k 0 v0 v1 0 0 0 w
def pX5_commonDivisor_0 (Z : ra_Z) (r : Int32) (w1 : ra_W) (k : Nat) (n : Nat) : Prop := ∀ (v0 : Int32) (v1 : Int32) (v2 : Int32) (v3 : Int32) (v4 : Int32) (w : ra_W), fX5_commonDivisor k n 0 v0 v1 v2 v3 v4 w = some (r, w1) → ra_J Z 6 0 [(0, .int v0), (1, .int v1)] [] w
def pX5_commonDivisor_1 (Z : ra_Z) (r : Int32) (w1 : ra_W) (k : Nat) (n : Nat) : Prop := ∀ (v0 : Int32) (v1 : Int32) (v2 : Int32) (v3 : Int32) (v4 : Int32) (w : ra_W), fX5_commonDivisor k n 1 v0 v1 v2 v3 v4 w = some (r, w1) → ra_J Z 6 7 [(2, .int v2), (3, .int v3), (4, .int v4)] [] w
def pX5_commonDivisor_2 (Z : ra_Z) (r : Int32) (w1 : ra_W) (k : Nat) (n : Nat) : Prop := ∀ (v0 : Int32) (v1 : Int32) (v2 : Int32) (v3 : Int32) (v4 : Int32) (w : ra_W), fX5_commonDivisor k n 2 v0 v1 v2 v3 v4 w = some (r, w1) → ra_J Z 6 34 [(2, .int v2)] [] w
set_option maxHeartbeats 4000000 in
theorem tX5_commonDivisor_0 {Z : ra_Z} {r : Int32} {w1 : ra_W} (C : ra_C Z cX5_commonDivisor 6 RX5 1 30) (hQ : ra_QI Z r w1) (hr : (zmt Z).sig.returnType = (some .int)) (k : Nat) (n : Nat) (ih1 : pX5_commonDivisor_1 Z r w1 k n) : pX5_commonDivisor_0 Z r w1 k (n + 1) := by
  intro v0 v1 v2 v3 v4 w hf
  rw [fX5_commonDivisor_0] at hf
  refine rg_iload_n (pc := 0) C 0 rfl rfl dX5_commonDivisor_0 ?_
  refine rg_istore_n (pc := 1) (lv' := [(0, .int v0), (1, .int v1), (2, .int v0)]) C [1, 2, 0] rfl rfl (by decide) dX5_commonDivisor_1 ?_
  refine rg_iload_n (pc := 2) C 1 rfl rfl dX5_commonDivisor_2 ?_
  refine rg_istore_n (pc := 3) (lv' := [(0, .int v0), (1, .int v1), (2, .int v0), (3, .int v1)]) C [1, 2, 3, 0] rfl rfl (by decide) dX5_commonDivisor_3 ?_
  refine rg_iconst (pc := 4) (v := 0) C dX5_commonDivisor_4 (by decide) ?_
  refine rg_istore (pc := 5) (lv' := [(0, .int v0), (1, .int v1), (2, .int v0), (3, .int v1), (4, .int 0)]) C [1, 2, 3, 4, 0] rfl (by decide) dX5_commonDivisor_5 ?_
  refine rg_sub [2, 3, 4] rfl ?_
  exact ih1 _ _ _ _ _ _ hf
set_option maxHeartbeats 4000000 in
theorem tX5_commonDivisor_1 {Z : ra_Z} {r : Int32} {w1 : ra_W} (C : ra_C Z cX5_commonDivisor 6 RX5 1 30) (hQ : ra_QI Z r w1) (hr : (zmt Z).sig.returnType = (some .int)) (k : Nat) (n : Nat) (ih1 : pX5_commonDivisor_1 Z r w1 k n) (ih2 : pX5_commonDivisor_2 Z r w1 k n) : pX5_commonDivisor_1 Z r w1 k (n + 1) := by
  intro v0 v1 v2 v3 v4 w hf
  rw [fX5_commonDivisor_1] at hf
  refine rg_iload (pc := 7) C 2 rfl dX5_commonDivisor_7 ?_
  refine rg_bipush (pc := 9) (v := 64) C dX5_commonDivisor_9 (by decide) ?_
  refine rg_icmp_ge (pc := 11) (tgt := 34) C dX5_commonDivisor_11 (by decide) (fun c1 => ?_) (fun c1 => ?_)
  · replace hf := ra_t hf c1
    refine rg_sub [0] rfl ?_
    exact ih2 _ _ _ _ _ _ hf
  · replace hf := ra_f hf c1
    refine rg_iload_n (pc := 14) C 1 rfl rfl dX5_commonDivisor_14 ?_
    refine rg_if_eq (pc := 15) (tgt := 34) C dX5_commonDivisor_15 (by decide) (fun c2 => ?_) (fun c2 => ?_)
    · replace hf := ra_t hf c2
      refine rg_sub [0] rfl ?_
      exact ih2 _ _ _ _ _ _ hf
    · replace hf := ra_f hf c2
      refine rg_iload_n (pc := 18) C 0 rfl rfl dX5_commonDivisor_18 ?_
      refine rg_iload_n (pc := 19) C 1 rfl rfl dX5_commonDivisor_19 ?_
      obtain ⟨g3, hf⟩ := ra_gd hf
      refine rg_irem (pc := 20) C g3 dX5_commonDivisor_20 ?_
      refine rg_istore (pc := 21) (lv' := [(2, .int v2), (3, .int v3), (4, .int v4), (5, .int (v2 - v2 / v3 * v3))]) C [1, 2, 3, 0] rfl (by decide) dX5_commonDivisor_21 ?_
      refine rg_iload_n (pc := 23) C 1 rfl rfl dX5_commonDivisor_23 ?_
      refine rg_istore_n (pc := 24) (lv' := [(2, .int v3), (3, .int v3), (4, .int v4), (5, .int (v2 - v2 / v3 * v3))]) C [0, 1, 2, 3] rfl rfl (by decide) dX5_commonDivisor_24 ?_
      refine rg_iload (pc := 25) C 3 rfl dX5_commonDivisor_25 ?_
      refine rg_istore_n (pc := 27) (lv' := [(2, .int v3), (3, .int (v2 - v2 / v3 * v3)), (4, .int v4), (5, .int (v2 - v2 / v3 * v3))]) C [1, 0, 2, 3] rfl rfl (by decide) dX5_commonDivisor_27 ?_
      refine rg_iinc (pc := 28) (v := (v4 + 1)) (lv' := [(2, .int v3), (3, .int (v2 - v2 / v3 * v3)), (4, .int (v4 + 1)), (5, .int (v2 - v2 / v3 * v3))]) C 2 rfl [1, 2, 0, 3] (ra_ii (by decide)) rfl (by decide) dX5_commonDivisor_28 ?_
      refine rg_goto (pc := 31) (tgt := 7) C dX5_commonDivisor_31 (by decide) ?_
      refine rg_sub [0, 1, 2] rfl ?_
      exact ih1 _ _ _ _ _ _ hf
set_option maxHeartbeats 4000000 in
theorem tX5_commonDivisor_2 {Z : ra_Z} {r : Int32} {w1 : ra_W} (C : ra_C Z cX5_commonDivisor 6 RX5 1 30) (hQ : ra_QI Z r w1) (hr : (zmt Z).sig.returnType = (some .int)) (k : Nat) (n : Nat) : pX5_commonDivisor_2 Z r w1 k (n + 1) := by
  intro v0 v1 v2 v3 v4 w hf
  rw [fX5_commonDivisor_2] at hf
  refine rg_iconst (pc := 34) (v := 1) C dX5_commonDivisor_34 (by decide) ?_
  refine rg_iload_n (pc := 35) C 0 rfl rfl dX5_commonDivisor_35 ?_
  refine rg_max (pc := 36) C wd_506 wd_376 wd_8 wd_377 (by decide) (Nat.le_of_ble_eq_true rfl) dX5_commonDivisor_36 ?_
  exact rg_iret (pc := 39) C hQ hr hf dX5_commonDivisor_39
theorem tX5_commonDivisor {Z : ra_Z} {r : Int32} {w1 : ra_W} (C : ra_C Z cX5_commonDivisor 6 RX5 1 30) (hQ : ra_QI Z r w1) (hr : (zmt Z).sig.returnType = (some .int)) (k : Nat) : ∀ n : Nat, pX5_commonDivisor_0 Z r w1 k n ∧ pX5_commonDivisor_1 Z r w1 k n ∧ pX5_commonDivisor_2 Z r w1 k n := by
  intro n
  induction n with
  | zero => exact ⟨(fun _ _ _ _ _ _ h => by cases h), (fun _ _ _ _ _ _ h => by cases h), (fun _ _ _ _ _ _ h => by cases h)⟩
  | succ n ih =>
    obtain ⟨ih0, ih1, ih2⟩ := ih
    exact ⟨tX5_commonDivisor_0 C hQ hr k n ih1, tX5_commonDivisor_1 C hQ hr k n ih1 ih2, tX5_commonDivisor_2 C hQ hr k n⟩
theorem kX5_commonDivisor (l : Launch) (G : ra_G) (hj : ra_inj G) (k : Nat) (v0 : Int32) (v1 : Int32) (w : ra_W) (r : Int32) (w1 : ra_W) (h : FX5_commonDivisor k v0 v1 w = some (r, w1)) : ra_MI l G yX5_commonDivisor cX5_commonDivisor 6 (some .int) 1 30 [.int v0, .int v1] w r w1 :=
  ra_entryI (own := RX5) (by decide) rfl (Nat.le_of_ble_eq_true rfl) hj (fun Z hl hG C hQ hr => by subst hl; subst hG; exact (tX5_commonDivisor C hQ hr k k).1 _ _ _ _ _ _ h)
theorem ysX5_commonDivisor : ra_YS yX5_commonDivisor cX5_commonDivisor 6 (some .int) 2 := ⟨⟨wd_1, wd_534, by decide, by decide, by decide⟩, wd_533⟩
/-- TrunkRadio.odds -/
def fX5_odds (k : Nat) : Nat → Nat → Int32 → Int32 → Int32 → Int32 → Int32 → Int32 → Int32 → Int32 → Int32 → ra_W → Option (Int32 × ra_W)
  | 0, _, _, _, _, _, _, _, _, _, _, _ => none
  | n + 1, L, v1, v2, v3, v4, v5, v6, v7, v8, s0, w => match L with
    | 0 => if v1 < 0 then (some ((-1), w)) else (if 10 < v1 then (some ((-1), w)) else (ra_bind (FX2_has k 3 v2 w) (fun r3 w4 => if r3 = 0 then (some ((-1), w4)) else (if v3 < 1 then (some ((-1), w4)) else (if 20 < v3 then (some ((-1), w4)) else (ra_bind (FX5_isBit k v4 w4) (fun r9 w10 => if r9 = 0 then (some ((-1), w10)) else (ra_bind (FX4_idleOnes k 16 3 w10) (fun r13 w14 => fX5_odds k n 1 v1 v2 v3 v4 (r13 &&& ((1 <<< (v2 &&& 31)) ^^^ (-1))) 0 0 0 0 w14)))))))))
    | 1 => if (1 <<< ((w 3 0) &&& 31)) ≤ v7 then (ra_bind (FJ6_bitCount_0f7a4 k v5 w) (fun r2 w3 => ra_bind (FX5_power k 10 r2 w3) (fun r5 w6 => ra_bind (FX5_commonDivisor k v6 r5 w6) (fun r8 w9 => if v4 = 0 then (fX5_odds k n 3 0 0 0 0 0 0 0 r8 v6 w9) else (fX5_odds k n 3 0 0 0 0 0 0 0 r8 r5 w9))))) else (if (v7 &&& (v5 ^^^ (-1))) = 0 then (ra_bind (FJ6_bitCount_0f7a4 k v7 w) (fun r13 w14 => ra_bind (FX5_power k v1 r13 w14) (fun r16 w17 => ra_bind (FJ6_bitCount_0f7a4 k (v5 &&& (v7 ^^^ (-1))) w17) (fun r19 w20 => ra_bind (FX5_power k (10 - v1) r19 w20) (fun r22 w23 => if (r16 * r22) ≤ 0 then (fX5_odds k n 2 v1 v2 v3 v4 v5 v6 v7 0 0 w23) else (ra_bind (FX5_talksAmong k v7 v2 v3 w23) (fun r26 w27 => if r26 = 0 then (fX5_odds k n 2 v1 v2 v3 v4 v5 v6 v7 0 0 w27) else (fX5_odds k n 2 v1 v2 v3 v4 v5 (v6 + (r16 * r22)) v7 0 0 w27)))))))) else (fX5_odds k n 2 v1 v2 v3 v4 v5 v6 v7 0 0 w))
    | 2 => fX5_odds k n 1 v1 v2 v3 v4 v5 v6 (v7 + 1) 0 0 w
    | _ => if ¬ v8 = 0 then some ((s0 / v8), w) else none
theorem fX5_odds_0 (k : Nat) (n : Nat) (v1 : Int32) (v2 : Int32) (v3 : Int32) (v4 : Int32) (v5 : Int32) (v6 : Int32) (v7 : Int32) (v8 : Int32) (s0 : Int32) (w : ra_W) : fX5_odds k (n + 1) 0 v1 v2 v3 v4 v5 v6 v7 v8 s0 w = (if v1 < 0 then (some ((-1), w)) else (if 10 < v1 then (some ((-1), w)) else (ra_bind (FX2_has k 3 v2 w) (fun r3 w4 => if r3 = 0 then (some ((-1), w4)) else (if v3 < 1 then (some ((-1), w4)) else (if 20 < v3 then (some ((-1), w4)) else (ra_bind (FX5_isBit k v4 w4) (fun r9 w10 => if r9 = 0 then (some ((-1), w10)) else (ra_bind (FX4_idleOnes k 16 3 w10) (fun r13 w14 => fX5_odds k n 1 v1 v2 v3 v4 (r13 &&& ((1 <<< (v2 &&& 31)) ^^^ (-1))) 0 0 0 0 w14)))))))))) := rfl
theorem fX5_odds_1 (k : Nat) (n : Nat) (v1 : Int32) (v2 : Int32) (v3 : Int32) (v4 : Int32) (v5 : Int32) (v6 : Int32) (v7 : Int32) (v8 : Int32) (s0 : Int32) (w : ra_W) : fX5_odds k (n + 1) 1 v1 v2 v3 v4 v5 v6 v7 v8 s0 w = (if (1 <<< ((w 3 0) &&& 31)) ≤ v7 then (ra_bind (FJ6_bitCount_0f7a4 k v5 w) (fun r2 w3 => ra_bind (FX5_power k 10 r2 w3) (fun r5 w6 => ra_bind (FX5_commonDivisor k v6 r5 w6) (fun r8 w9 => if v4 = 0 then (fX5_odds k n 3 0 0 0 0 0 0 0 r8 v6 w9) else (fX5_odds k n 3 0 0 0 0 0 0 0 r8 r5 w9))))) else (if (v7 &&& (v5 ^^^ (-1))) = 0 then (ra_bind (FJ6_bitCount_0f7a4 k v7 w) (fun r13 w14 => ra_bind (FX5_power k v1 r13 w14) (fun r16 w17 => ra_bind (FJ6_bitCount_0f7a4 k (v5 &&& (v7 ^^^ (-1))) w17) (fun r19 w20 => ra_bind (FX5_power k (10 - v1) r19 w20) (fun r22 w23 => if (r16 * r22) ≤ 0 then (fX5_odds k n 2 v1 v2 v3 v4 v5 v6 v7 0 0 w23) else (ra_bind (FX5_talksAmong k v7 v2 v3 w23) (fun r26 w27 => if r26 = 0 then (fX5_odds k n 2 v1 v2 v3 v4 v5 v6 v7 0 0 w27) else (fX5_odds k n 2 v1 v2 v3 v4 v5 (v6 + (r16 * r22)) v7 0 0 w27)))))))) else (fX5_odds k n 2 v1 v2 v3 v4 v5 v6 v7 0 0 w))) := rfl
theorem fX5_odds_2 (k : Nat) (n : Nat) (v1 : Int32) (v2 : Int32) (v3 : Int32) (v4 : Int32) (v5 : Int32) (v6 : Int32) (v7 : Int32) (v8 : Int32) (s0 : Int32) (w : ra_W) : fX5_odds k (n + 1) 2 v1 v2 v3 v4 v5 v6 v7 v8 s0 w = (fX5_odds k n 1 v1 v2 v3 v4 v5 v6 (v7 + 1) 0 0 w) := rfl
theorem fX5_odds_3 (k : Nat) (n : Nat) (v1 : Int32) (v2 : Int32) (v3 : Int32) (v4 : Int32) (v5 : Int32) (v6 : Int32) (v7 : Int32) (v8 : Int32) (s0 : Int32) (w : ra_W) : fX5_odds k (n + 1) 3 v1 v2 v3 v4 v5 v6 v7 v8 s0 w = (if ¬ v8 = 0 then some ((s0 / v8), w) else none) := rfl
def FX5_odds (k : Nat) (v1 : Int32) (v2 : Int32) (v3 : Int32) (v4 : Int32) (w : ra_W) : Option (Int32 × ra_W) := fX5_odds k k 0 v1 v2 v3 v4 0 0 0 0 0 w
def pX5_odds_0 (Z : ra_Z) (r : Int32) (w1 : ra_W) (k : Nat) (n : Nat) : Prop := ∀ (v1 : Int32) (v2 : Int32) (v3 : Int32) (v4 : Int32) (v5 : Int32) (v6 : Int32) (v7 : Int32) (v8 : Int32) (s0 : Int32) (w : ra_W), fX5_odds k n 0 v1 v2 v3 v4 v5 v6 v7 v8 s0 w = some (r, w1) → ra_J Z 9 0 [(0, .ref ((zG Z).1 0)), (1, .int v1), (2, .int v2), (3, .int v3), (4, .int v4)] [] w
def pX5_odds_1 (Z : ra_Z) (r : Int32) (w1 : ra_W) (k : Nat) (n : Nat) : Prop := ∀ (v1 : Int32) (v2 : Int32) (v3 : Int32) (v4 : Int32) (v5 : Int32) (v6 : Int32) (v7 : Int32) (v8 : Int32) (s0 : Int32) (w : ra_W), fX5_odds k n 1 v1 v2 v3 v4 v5 v6 v7 v8 s0 w = some (r, w1) → ra_J Z 9 67 [(0, .ref ((zG Z).1 0)), (1, .int v1), (2, .int v2), (3, .int v3), (4, .int v4), (5, .int v5), (6, .int v6), (7, .int v7)] [] w
def pX5_odds_2 (Z : ra_Z) (r : Int32) (w1 : ra_W) (k : Nat) (n : Nat) : Prop := ∀ (v1 : Int32) (v2 : Int32) (v3 : Int32) (v4 : Int32) (v5 : Int32) (v6 : Int32) (v7 : Int32) (v8 : Int32) (s0 : Int32) (w : ra_W), fX5_odds k n 2 v1 v2 v3 v4 v5 v6 v7 v8 s0 w = some (r, w1) → ra_J Z 9 146 [(0, .ref ((zG Z).1 0)), (1, .int v1), (2, .int v2), (3, .int v3), (4, .int v4), (5, .int v5), (6, .int v6), (7, .int v7)] [] w
def pX5_odds_3 (Z : ra_Z) (r : Int32) (w1 : ra_W) (k : Nat) (n : Nat) : Prop := ∀ (v1 : Int32) (v2 : Int32) (v3 : Int32) (v4 : Int32) (v5 : Int32) (v6 : Int32) (v7 : Int32) (v8 : Int32) (s0 : Int32) (w : ra_W), fX5_odds k n 3 v1 v2 v3 v4 v5 v6 v7 v8 s0 w = some (r, w1) → ra_J Z 9 185 [(0, .ref ((zG Z).1 0)), (8, .int v8)] [.int s0] w
set_option maxHeartbeats 4000000 in
theorem tX5_odds_0 {Z : ra_Z} {r : Int32} {w1 : ra_W} (C : ra_C Z cX5_odds 9 RX5 6 141) (hQ : ra_QI Z r w1) (hr : (zmt Z).sig.returnType = (some .int)) (k : Nat) (n : Nat) (ih1 : pX5_odds_1 Z r w1 k n) : pX5_odds_0 Z r w1 k (n + 1) := by
  intro v1 v2 v3 v4 v5 v6 v7 v8 s0 w hf
  rw [fX5_odds_0] at hf
  refine rg_iload_n (pc := 0) C 1 rfl rfl dX5_odds_0 ?_
  refine rg_if_lt (pc := 1) (tgt := 40) C dX5_odds_1 (by decide) (fun c1 => ?_) (fun c1 => ?_)
  · replace hf := ra_t hf c1
    refine rg_iconst (pc := 40) (v := (-1)) C dX5_odds_40 (by decide) ?_
    exact rg_iret (pc := 41) C hQ hr hf dX5_odds_41
  · replace hf := ra_f hf c1
    refine rg_iload_n (pc := 4) C 1 rfl rfl dX5_odds_4 ?_
    refine rg_bipush (pc := 5) (v := 10) C dX5_odds_5 (by decide) ?_
    refine rg_icmp_gt (pc := 7) (tgt := 40) C dX5_odds_7 (by decide) (fun c2 => ?_) (fun c2 => ?_)
    · replace hf := ra_t hf c2
      refine rg_iconst (pc := 40) (v := (-1)) C dX5_odds_40 (by decide) ?_
      exact rg_iret (pc := 41) C hQ hr hf dX5_odds_41
    · replace hf := ra_f hf c2
      refine rg_aload_n (pc := 10) C 0 rfl rfl dX5_odds_10 ?_
      refine rg_get (pc := 11) C 0 5 1 kd_0 (by decide) rfl inlX5 (by decide) wd_202 rfl dX5_odds_11 ?_
      refine rg_iload_n (pc := 14) C 2 rfl rfl dX5_odds_14 ?_
      obtain ⟨r3, w4, e5, hf⟩ := ra_bd hf
      refine rg_callVI (pc := 15) (As := [.int v2]) (st := []) C (kX2_has (zl Z) (zG Z) C.hj k 3 ra_N3 _ _ _ _ e5) kd_3 (by decide) rfl ysX2_has rfl wd_425 ⟨Nat.le_of_ble_eq_true rfl, Nat.le_of_ble_eq_true rfl⟩ rfl (Nat.le_of_ble_eq_true rfl) dX5_odds_15 ?_
      refine rg_if_eq (pc := 18) (tgt := 40) C dX5_odds_18 (by decide) (fun c6 => ?_) (fun c6 => ?_)
      · replace hf := ra_t hf c6
        refine rg_iconst (pc := 40) (v := (-1)) C dX5_odds_40 (by decide) ?_
        exact rg_iret (pc := 41) C hQ hr hf dX5_odds_41
      · replace hf := ra_f hf c6
        refine rg_iload_n (pc := 21) C 3 rfl rfl dX5_odds_21 ?_
        refine rg_iconst (pc := 22) (v := 1) C dX5_odds_22 (by decide) ?_
        refine rg_icmp_lt (pc := 23) (tgt := 40) C dX5_odds_23 (by decide) (fun c7 => ?_) (fun c7 => ?_)
        · replace hf := ra_t hf c7
          refine rg_iconst (pc := 40) (v := (-1)) C dX5_odds_40 (by decide) ?_
          exact rg_iret (pc := 41) C hQ hr hf dX5_odds_41
        · replace hf := ra_f hf c7
          refine rg_iload_n (pc := 26) C 3 rfl rfl dX5_odds_26 ?_
          refine rg_bipush (pc := 27) (v := 20) C dX5_odds_27 (by decide) ?_
          refine rg_icmp_gt (pc := 29) (tgt := 40) C dX5_odds_29 (by decide) (fun c8 => ?_) (fun c8 => ?_)
          · replace hf := ra_t hf c8
            refine rg_iconst (pc := 40) (v := (-1)) C dX5_odds_40 (by decide) ?_
            exact rg_iret (pc := 41) C hQ hr hf dX5_odds_41
          · replace hf := ra_f hf c8
            refine rg_iload (pc := 32) C 4 rfl dX5_odds_32 ?_
            obtain ⟨r9, w10, e11, hf⟩ := ra_bd hf
            refine rg_callSI (pc := 34) (As := [.int v4]) (st := []) C (kX5_isBit (zl Z) (zG Z) C.hj k _ _ _ _ e11) ysX5_isBit rfl wd_429 ⟨Nat.le_of_ble_eq_true rfl, Nat.le_of_ble_eq_true rfl⟩ rfl (Nat.le_of_ble_eq_true rfl) dX5_odds_34 ?_
            refine rg_if_ne (pc := 37) (tgt := 42) C dX5_odds_37 (by decide) (fun c12 => ?_) (fun c12 => ?_)
            · replace hf := ra_f hf c12
              refine rg_aload_n (pc := 42) C 0 rfl rfl dX5_odds_42 ?_
              refine rg_get (pc := 43) C 0 5 4 kd_0 (by decide) rfl inlX5 (by decide) wd_205 rfl dX5_odds_43 ?_
              refine rg_aload_n (pc := 46) C 0 rfl rfl dX5_odds_46 ?_
              refine rg_get (pc := 47) C 0 5 1 kd_0 (by decide) rfl inlX5 (by decide) wd_202 rfl dX5_odds_47 ?_
              obtain ⟨r13, w14, e15, hf⟩ := ra_bd hf
              refine rg_callVI (pc := 50) (As := [.ref ((zG Z).1 3)]) (st := []) C (kX4_idleOnes (zl Z) (zG Z) C.hj k 16 3 ra_S16 ra_N3 _ _ _ e15) kd_16 (by decide) rfl ysX4_idleOnes rfl wd_515 ⟨Nat.le_of_ble_eq_true rfl, Nat.le_of_ble_eq_true rfl⟩ rfl (Nat.le_of_ble_eq_true rfl) dX5_odds_50 ?_
              refine rg_iconst (pc := 53) (v := 1) C dX5_odds_53 (by decide) ?_
              refine rg_iload_n (pc := 54) C 2 rfl rfl dX5_odds_54 ?_
              refine rg_ishl (pc := 55) C dX5_odds_55 ?_
              refine rg_iconst (pc := 56) (v := (-1)) C dX5_odds_56 (by decide) ?_
              refine rg_ixor (pc := 57) C dX5_odds_57 ?_
              refine rg_iand (pc := 58) C dX5_odds_58 ?_
              refine rg_istore (pc := 59) (lv' := [(0, .ref ((zG Z).1 0)), (1, .int v1), (2, .int v2), (3, .int v3), (4, .int v4), (5, .int (r13 &&& ((1 <<< (v2 &&& 31)) ^^^ (-1))))]) C [1, 2, 3, 4, 5, 0] rfl (by decide) dX5_odds_59 ?_
              refine rg_iconst (pc := 61) (v := 0) C dX5_odds_61 (by decide) ?_
              refine rg_istore (pc := 62) (lv' := [(0, .ref ((zG Z).1 0)), (1, .int v1), (2, .int v2), (3, .int v3), (4, .int v4), (5, .int (r13 &&& ((1 <<< (v2 &&& 31)) ^^^ (-1)))), (6, .int 0)]) C [1, 2, 3, 4, 5, 6, 0] rfl (by decide) dX5_odds_62 ?_
              refine rg_iconst (pc := 64) (v := 0) C dX5_odds_64 (by decide) ?_
              refine rg_istore (pc := 65) (lv' := [(0, .ref ((zG Z).1 0)), (1, .int v1), (2, .int v2), (3, .int v3), (4, .int v4), (5, .int (r13 &&& ((1 <<< (v2 &&& 31)) ^^^ (-1)))), (6, .int 0), (7, .int 0)]) C [1, 2, 3, 4, 5, 6, 7, 0] rfl (by decide) dX5_odds_65 ?_
              exact ih1 _ _ _ _ _ _ _ _ _ _ hf
            · replace hf := ra_t hf c12
              refine rg_iconst (pc := 40) (v := (-1)) C dX5_odds_40 (by decide) ?_
              exact rg_iret (pc := 41) C hQ hr hf dX5_odds_41
set_option maxHeartbeats 4000000 in
theorem tX5_odds_1 {Z : ra_Z} {r : Int32} {w1 : ra_W} (C : ra_C Z cX5_odds 9 RX5 6 141) (hQ : ra_QI Z r w1) (hr : (zmt Z).sig.returnType = (some .int)) (k : Nat) (n : Nat) (ih2 : pX5_odds_2 Z r w1 k n) (ih3 : pX5_odds_3 Z r w1 k n) : pX5_odds_1 Z r w1 k (n + 1) := by
  intro v1 v2 v3 v4 v5 v6 v7 v8 s0 w hf
  rw [fX5_odds_1] at hf
  refine rg_iload (pc := 67) C 7 rfl dX5_odds_67 ?_
  refine rg_iconst (pc := 69) (v := 1) C dX5_odds_69 (by decide) ?_
  refine rg_aload_n (pc := 70) C 0 rfl rfl dX5_odds_70 ?_
  refine rg_get (pc := 71) C 0 5 1 kd_0 (by decide) rfl inlX5 (by decide) wd_202 rfl dX5_odds_71 ?_
  refine rg_get (pc := 74) C 3 2 0 kd_3 (by decide) rfl inlX2 (by decide) wd_67 rfl dX5_odds_74 ?_
  refine rg_ishl (pc := 77) C dX5_odds_77 ?_
  refine rg_icmp_ge (pc := 78) (tgt := 152) C dX5_odds_78 (by decide) (fun c1 => ?_) (fun c1 => ?_)
  · replace hf := ra_t hf c1
    refine rg_bipush (pc := 152) (v := 10) C dX5_odds_152 (by decide) ?_
    refine rg_iload (pc := 154) C 5 rfl dX5_odds_154 ?_
    obtain ⟨r2, w3, e4, hf⟩ := ra_bd hf
    refine rg_callSI (pc := 156) (As := [.int v5]) (st := [.int 10]) C (kJ6_bitCount_0f7a4 (zl Z) (zG Z) C.hj k _ _ _ _ e4) ysJ6_bitCount_0f7a4 rfl wd_519 ⟨Nat.le_of_ble_eq_true rfl, Nat.le_of_ble_eq_true rfl⟩ rfl (Nat.le_of_ble_eq_true rfl) dX5_odds_156 ?_
    obtain ⟨r5, w6, e7, hf⟩ := ra_bd hf
    refine rg_callSI (pc := 159) (As := [.int 10, .int r2]) (st := []) C (kX5_power (zl Z) (zG Z) C.hj k _ _ _ _ _ e7) ysX5_power rfl wd_525 ⟨Nat.le_of_ble_eq_true rfl, Nat.le_of_ble_eq_true rfl⟩ rfl (Nat.le_of_ble_eq_true rfl) dX5_odds_159 ?_
    refine rg_istore (pc := 162) (lv' := [(0, .ref ((zG Z).1 0)), (1, .int v1), (2, .int v2), (3, .int v3), (4, .int v4), (5, .int v5), (6, .int v6), (7, .int r5)]) C [1, 2, 3, 4, 5, 6, 7, 0] rfl (by decide) dX5_odds_162 ?_
    refine rg_iload (pc := 164) C 6 rfl dX5_odds_164 ?_
    refine rg_iload (pc := 166) C 7 rfl dX5_odds_166 ?_
    obtain ⟨r8, w9, e10, hf⟩ := ra_bd hf
    refine rg_callSI (pc := 168) (As := [.int v6, .int r5]) (st := []) C (kX5_commonDivisor (zl Z) (zG Z) C.hj k _ _ _ _ _ e10) ysX5_commonDivisor rfl wd_532 ⟨Nat.le_of_ble_eq_true rfl, Nat.le_of_ble_eq_true rfl⟩ rfl (Nat.le_of_ble_eq_true rfl) dX5_odds_168 ?_
    refine rg_istore (pc := 171) (lv' := [(0, .ref ((zG Z).1 0)), (1, .int v1), (2, .int v2), (3, .int v3), (4, .int v4), (5, .int v5), (6, .int v6), (7, .int r5), (8, .int r8)]) C [1, 2, 3, 4, 5, 6, 7, 8, 0] rfl (by decide) dX5_odds_171 ?_
    refine rg_iload (pc := 173) C 4 rfl dX5_odds_173 ?_
    refine rg_if_ne (pc := 175) (tgt := 183) C dX5_odds_175 (by decide) (fun c11 => ?_) (fun c11 => ?_)
    · replace hf := ra_f hf c11
      refine rg_iload (pc := 183) C 7 rfl dX5_odds_183 ?_
      refine rg_sub [0, 8] rfl ?_
      exact ih3 _ _ _ _ _ _ _ _ _ _ hf
    · replace hf := ra_t hf c11
      refine rg_iload (pc := 178) C 6 rfl dX5_odds_178 ?_
      refine rg_goto (pc := 180) (tgt := 185) C dX5_odds_180 (by decide) ?_
      refine rg_sub [0, 8] rfl ?_
      exact ih3 _ _ _ _ _ _ _ _ _ _ hf
  · replace hf := ra_f hf c1
    refine rg_iload (pc := 81) C 7 rfl dX5_odds_81 ?_
    refine rg_iload (pc := 83) C 5 rfl dX5_odds_83 ?_
    refine rg_iconst (pc := 85) (v := (-1)) C dX5_odds_85 (by decide) ?_
    refine rg_ixor (pc := 86) C dX5_odds_86 ?_
    refine rg_iand (pc := 87) C dX5_odds_87 ?_
    refine rg_if_eq (pc := 88) (tgt := 94) C dX5_odds_88 (by decide) (fun c12 => ?_) (fun c12 => ?_)
    · replace hf := ra_t hf c12
      refine rg_iload_n (pc := 94) C 1 rfl rfl dX5_odds_94 ?_
      refine rg_iload (pc := 95) C 7 rfl dX5_odds_95 ?_
      obtain ⟨r13, w14, e15, hf⟩ := ra_bd hf
      refine rg_callSI (pc := 97) (As := [.int v7]) (st := [.int v1]) C (kJ6_bitCount_0f7a4 (zl Z) (zG Z) C.hj k _ _ _ _ e15) ysJ6_bitCount_0f7a4 rfl wd_519 ⟨Nat.le_of_ble_eq_true rfl, Nat.le_of_ble_eq_true rfl⟩ rfl (Nat.le_of_ble_eq_true rfl) dX5_odds_97 ?_
      obtain ⟨r16, w17, e18, hf⟩ := ra_bd hf
      refine rg_callSI (pc := 100) (As := [.int v1, .int r13]) (st := []) C (kX5_power (zl Z) (zG Z) C.hj k _ _ _ _ _ e18) ysX5_power rfl wd_525 ⟨Nat.le_of_ble_eq_true rfl, Nat.le_of_ble_eq_true rfl⟩ rfl (Nat.le_of_ble_eq_true rfl) dX5_odds_100 ?_
      refine rg_bipush (pc := 103) (v := 10) C dX5_odds_103 (by decide) ?_
      refine rg_iload_n (pc := 105) C 1 rfl rfl dX5_odds_105 ?_
      refine rg_isub (pc := 106) C dX5_odds_106 ?_
      refine rg_iload (pc := 107) C 5 rfl dX5_odds_107 ?_
      refine rg_iload (pc := 109) C 7 rfl dX5_odds_109 ?_
      refine rg_iconst (pc := 111) (v := (-1)) C dX5_odds_111 (by decide) ?_
      refine rg_ixor (pc := 112) C dX5_odds_112 ?_
      refine rg_iand (pc := 113) C dX5_odds_113 ?_
      obtain ⟨r19, w20, e21, hf⟩ := ra_bd hf
      refine rg_callSI (pc := 114) (As := [.int (v5 &&& (v7 ^^^ (-1)))]) (st := [.int (10 - v1), .int r16]) C (kJ6_bitCount_0f7a4 (zl Z) (zG Z) C.hj k _ _ _ _ e21) ysJ6_bitCount_0f7a4 rfl wd_519 ⟨Nat.le_of_ble_eq_true rfl, Nat.le_of_ble_eq_true rfl⟩ rfl (Nat.le_of_ble_eq_true rfl) dX5_odds_114 ?_
      obtain ⟨r22, w23, e24, hf⟩ := ra_bd hf
      refine rg_callSI (pc := 117) (As := [.int (10 - v1), .int r19]) (st := [.int r16]) C (kX5_power (zl Z) (zG Z) C.hj k _ _ _ _ _ e24) ysX5_power rfl wd_525 ⟨Nat.le_of_ble_eq_true rfl, Nat.le_of_ble_eq_true rfl⟩ rfl (Nat.le_of_ble_eq_true rfl) dX5_odds_117 ?_
      refine rg_imul (pc := 120) C dX5_odds_120 ?_
      refine rg_istore (pc := 121) (lv' := [(0, .ref ((zG Z).1 0)), (1, .int v1), (2, .int v2), (3, .int v3), (4, .int v4), (5, .int v5), (6, .int v6), (7, .int v7), (8, .int (r16 * r22))]) C [1, 2, 3, 4, 5, 6, 7, 8, 0] rfl (by decide) dX5_odds_121 ?_
      refine rg_iload (pc := 123) C 8 rfl dX5_odds_123 ?_
      refine rg_if_le (pc := 125) (tgt := 146) C dX5_odds_125 (by decide) (fun c25 => ?_) (fun c25 => ?_)
      · replace hf := ra_t hf c25
        refine rg_sub [0, 1, 2, 3, 4, 5, 6, 7] rfl ?_
        exact ih2 _ _ _ _ _ _ _ _ _ _ hf
      · replace hf := ra_f hf c25
        refine rg_aload_n (pc := 128) C 0 rfl rfl dX5_odds_128 ?_
        refine rg_iload (pc := 129) C 7 rfl dX5_odds_129 ?_
        refine rg_iload_n (pc := 131) C 2 rfl rfl dX5_odds_131 ?_
        refine rg_iload_n (pc := 132) C 3 rfl rfl dX5_odds_132 ?_
        obtain ⟨r26, w27, e28, hf⟩ := ra_bd hf
        refine rg_callVI (pc := 133) (As := [.int v7, .int v2, .int v3]) (st := []) C (kX5_talksAmong (zl Z) (zG Z) C.hj k _ _ _ _ _ _ e28) kd_0 (by decide) rfl ysX5_talksAmong rfl wd_528 ⟨Nat.le_of_ble_eq_true rfl, Nat.le_of_ble_eq_true rfl⟩ rfl (Nat.le_of_ble_eq_true rfl) dX5_odds_133 ?_
        refine rg_if_eq (pc := 136) (tgt := 146) C dX5_odds_136 (by decide) (fun c29 => ?_) (fun c29 => ?_)
        · replace hf := ra_t hf c29
          refine rg_sub [0, 1, 2, 3, 4, 5, 6, 7] rfl ?_
          exact ih2 _ _ _ _ _ _ _ _ _ _ hf
        · replace hf := ra_f hf c29
          refine rg_iload (pc := 139) C 6 rfl dX5_odds_139 ?_
          refine rg_iload (pc := 141) C 8 rfl dX5_odds_141 ?_
          refine rg_iadd (pc := 143) C dX5_odds_143 ?_
          refine rg_istore (pc := 144) (lv' := [(0, .ref ((zG Z).1 0)), (1, .int v1), (2, .int v2), (3, .int v3), (4, .int v4), (5, .int v5), (6, .int (v6 + (r16 * r22))), (7, .int v7), (8, .int (r16 * r22))]) C [1, 2, 3, 4, 5, 6, 0, 7, 8] rfl (by decide) dX5_odds_144 ?_
          refine rg_sub [0, 1, 2, 3, 4, 5, 6, 7] rfl ?_
          exact ih2 _ _ _ _ _ _ _ _ _ _ hf
    · replace hf := ra_f hf c12
      refine rg_goto (pc := 91) (tgt := 146) C dX5_odds_91 (by decide) ?_
      exact ih2 _ _ _ _ _ _ _ _ _ _ hf
set_option maxHeartbeats 4000000 in
theorem tX5_odds_2 {Z : ra_Z} {r : Int32} {w1 : ra_W} (C : ra_C Z cX5_odds 9 RX5 6 141) (hQ : ra_QI Z r w1) (hr : (zmt Z).sig.returnType = (some .int)) (k : Nat) (n : Nat) (ih1 : pX5_odds_1 Z r w1 k n) : pX5_odds_2 Z r w1 k (n + 1) := by
  intro v1 v2 v3 v4 v5 v6 v7 v8 s0 w hf
  rw [fX5_odds_2] at hf
  refine rg_iinc (pc := 146) (v := (v7 + 1)) (lv' := [(0, .ref ((zG Z).1 0)), (1, .int v1), (2, .int v2), (3, .int v3), (4, .int v4), (5, .int v5), (6, .int v6), (7, .int (v7 + 1))]) C 7 rfl [1, 2, 3, 4, 5, 6, 7, 0] (ra_ii (by decide)) rfl (by decide) dX5_odds_146 ?_
  refine rg_goto (pc := 149) (tgt := 67) C dX5_odds_149 (by decide) ?_
  exact ih1 _ _ _ _ _ _ _ _ _ _ hf
set_option maxHeartbeats 4000000 in
theorem tX5_odds_3 {Z : ra_Z} {r : Int32} {w1 : ra_W} (C : ra_C Z cX5_odds 9 RX5 6 141) (hQ : ra_QI Z r w1) (hr : (zmt Z).sig.returnType = (some .int)) (k : Nat) (n : Nat) : pX5_odds_3 Z r w1 k (n + 1) := by
  intro v1 v2 v3 v4 v5 v6 v7 v8 s0 w hf
  rw [fX5_odds_3] at hf
  refine rg_iload (pc := 185) C 1 rfl dX5_odds_185 ?_
  obtain ⟨g1, hf⟩ := ra_gd hf
  refine rg_idiv (pc := 187) C g1 dX5_odds_187 ?_
  exact rg_iret (pc := 188) C hQ hr hf dX5_odds_188
theorem tX5_odds {Z : ra_Z} {r : Int32} {w1 : ra_W} (C : ra_C Z cX5_odds 9 RX5 6 141) (hQ : ra_QI Z r w1) (hr : (zmt Z).sig.returnType = (some .int)) (k : Nat) : ∀ n : Nat, pX5_odds_0 Z r w1 k n ∧ pX5_odds_1 Z r w1 k n ∧ pX5_odds_2 Z r w1 k n ∧ pX5_odds_3 Z r w1 k n := by
  intro n
  induction n with
  | zero => exact ⟨(fun _ _ _ _ _ _ _ _ _ _ h => by cases h), (fun _ _ _ _ _ _ _ _ _ _ h => by cases h), (fun _ _ _ _ _ _ _ _ _ _ h => by cases h), (fun _ _ _ _ _ _ _ _ _ _ h => by cases h)⟩
  | succ n ih =>
    obtain ⟨ih0, ih1, ih2, ih3⟩ := ih
    exact ⟨tX5_odds_0 C hQ hr k n ih1, tX5_odds_1 C hQ hr k n ih2 ih3, tX5_odds_2 C hQ hr k n ih1, tX5_odds_3 C hQ hr k n⟩
theorem kX5_odds (l : Launch) (G : ra_G) (hj : ra_inj G) (k : Nat) (v1 : Int32) (v2 : Int32) (v3 : Int32) (v4 : Int32) (w : ra_W) (r : Int32) (w1 : ra_W) (h : FX5_odds k v1 v2 v3 v4 w = some (r, w1)) : ra_MI l G yX5_odds cX5_odds 9 (some .int) 6 141 [.ref (G.1 0), .int v1, .int v2, .int v3, .int v4] w r w1 :=
  ra_entryI (own := RX5) (by decide) rfl (Nat.le_of_ble_eq_true rfl) hj (fun Z hl hG C hQ hr => by subst hl; subst hG; exact (tX5_odds C hQ hr k k).1 _ _ _ _ _ _ _ _ _ _ h)
theorem ysX5_odds : ra_YV yX5_odds cX5_odds 9 (some .int) 4 RX5 := ⟨⟨wd_1, wd_514, by decide, by decide, by decide⟩, wd_512, wd_513⟩
/-- TrunkRadio.sees -/
def fX5_sees (k : Nat) : Nat → Nat → Int32 → Int32 → ra_W → Option (Int32 × ra_W)
  | 0, _, _, _, _ => none
  | n + 1, L, v1, v2, w => match L with
    | _ => if v1 < 1 then (some ((-1), w)) else (if 20 < v1 then (some ((-1), w)) else (ra_bind (FX5_isBit k v2 w) (fun r3 w4 => if r3 = 0 then (some ((-1), w4)) else (if (w4 0 11) < 6 then (if ra_in (w4 0 11) 6 then if ra_in ((ra_st w4 33 (ra_ix (w4 0 11)) v1) 0 11) 6 then some (((ra_st (ra_st (ra_st w4 33 (ra_ix (w4 0 11)) v1) 34 (ra_ix ((ra_st w4 33 (ra_ix (w4 0 11)) v1) 0 11)) v2) 0 11 (((ra_st (ra_st w4 33 (ra_ix (w4 0 11)) v1) 34 (ra_ix ((ra_st w4 33 (ra_ix (w4 0 11)) v1) 0 11)) v2) 0 11) + 1)) 0 11), (ra_st (ra_st (ra_st w4 33 (ra_ix (w4 0 11)) v1) 34 (ra_ix ((ra_st w4 33 (ra_ix (w4 0 11)) v1) 0 11)) v2) 0 11 (((ra_st (ra_st w4 33 (ra_ix (w4 0 11)) v1) 34 (ra_ix ((ra_st w4 33 (ra_ix (w4 0 11)) v1) 0 11)) v2) 0 11) + 1))) else none else none) else (some ((-3), w4))))))
theorem fX5_sees_0 (k : Nat) (n : Nat) (v1 : Int32) (v2 : Int32) (w : ra_W) : fX5_sees k (n + 1) 0 v1 v2 w = (if v1 < 1 then (some ((-1), w)) else (if 20 < v1 then (some ((-1), w)) else (ra_bind (FX5_isBit k v2 w) (fun r3 w4 => if r3 = 0 then (some ((-1), w4)) else (if (w4 0 11) < 6 then (if ra_in (w4 0 11) 6 then if ra_in ((ra_st w4 33 (ra_ix (w4 0 11)) v1) 0 11) 6 then some (((ra_st (ra_st (ra_st w4 33 (ra_ix (w4 0 11)) v1) 34 (ra_ix ((ra_st w4 33 (ra_ix (w4 0 11)) v1) 0 11)) v2) 0 11 (((ra_st (ra_st w4 33 (ra_ix (w4 0 11)) v1) 34 (ra_ix ((ra_st w4 33 (ra_ix (w4 0 11)) v1) 0 11)) v2) 0 11) + 1)) 0 11), (ra_st (ra_st (ra_st w4 33 (ra_ix (w4 0 11)) v1) 34 (ra_ix ((ra_st w4 33 (ra_ix (w4 0 11)) v1) 0 11)) v2) 0 11 (((ra_st (ra_st w4 33 (ra_ix (w4 0 11)) v1) 34 (ra_ix ((ra_st w4 33 (ra_ix (w4 0 11)) v1) 0 11)) v2) 0 11) + 1))) else none else none) else (some ((-3), w4))))))) := rfl
def FX5_sees (k : Nat) (v1 : Int32) (v2 : Int32) (w : ra_W) : Option (Int32 × ra_W) := fX5_sees k k 0 v1 v2 w
def pX5_sees_0 (Z : ra_Z) (r : Int32) (w1 : ra_W) (k : Nat) (n : Nat) : Prop := ∀ (v1 : Int32) (v2 : Int32) (w : ra_W), fX5_sees k n 0 v1 v2 w = some (r, w1) → ra_J Z 3 0 [(0, .ref ((zG Z).1 0)), (1, .int v1), (2, .int v2)] [] w
set_option maxHeartbeats 4000000 in
theorem tX5_sees_0 {Z : ra_Z} {r : Int32} {w1 : ra_W} (C : ra_C Z cX5_sees 3 RX5 1 20) (hQ : ra_QI Z r w1) (hr : (zmt Z).sig.returnType = (some .int)) (k : Nat) (n : Nat) : pX5_sees_0 Z r w1 k (n + 1) := by
  intro v1 v2 w hf
  rw [fX5_sees_0] at hf
  refine rg_iload_n (pc := 0) C 1 rfl rfl dX5_sees_0 ?_
  refine rg_iconst (pc := 1) (v := 1) C dX5_sees_1 (by decide) ?_
  refine rg_icmp_lt (pc := 2) (tgt := 18) C dX5_sees_2 (by decide) (fun c1 => ?_) (fun c1 => ?_)
  · replace hf := ra_t hf c1
    refine rg_iconst (pc := 18) (v := (-1)) C dX5_sees_18 (by decide) ?_
    exact rg_iret (pc := 19) C hQ hr hf dX5_sees_19
  · replace hf := ra_f hf c1
    refine rg_iload_n (pc := 5) C 1 rfl rfl dX5_sees_5 ?_
    refine rg_bipush (pc := 6) (v := 20) C dX5_sees_6 (by decide) ?_
    refine rg_icmp_gt (pc := 8) (tgt := 18) C dX5_sees_8 (by decide) (fun c2 => ?_) (fun c2 => ?_)
    · replace hf := ra_t hf c2
      refine rg_iconst (pc := 18) (v := (-1)) C dX5_sees_18 (by decide) ?_
      exact rg_iret (pc := 19) C hQ hr hf dX5_sees_19
    · replace hf := ra_f hf c2
      refine rg_iload_n (pc := 11) C 2 rfl rfl dX5_sees_11 ?_
      obtain ⟨r3, w4, e5, hf⟩ := ra_bd hf
      refine rg_callSI (pc := 12) (As := [.int v2]) (st := []) C (kX5_isBit (zl Z) (zG Z) C.hj k _ _ _ _ e5) ysX5_isBit rfl wd_429 ⟨Nat.le_of_ble_eq_true rfl, Nat.le_of_ble_eq_true rfl⟩ rfl (Nat.le_of_ble_eq_true rfl) dX5_sees_12 ?_
      refine rg_if_ne (pc := 15) (tgt := 20) C dX5_sees_15 (by decide) (fun c6 => ?_) (fun c6 => ?_)
      · replace hf := ra_f hf c6
        refine rg_aload_n (pc := 20) C 0 rfl rfl dX5_sees_20 ?_
        refine rg_get (pc := 21) C 0 5 11 kd_0 (by decide) rfl inlX5 (by decide) wd_212 rfl dX5_sees_21 ?_
        refine rg_bipush (pc := 24) (v := 6) C dX5_sees_24 (by decide) ?_
        refine rg_icmp_lt (pc := 26) (tgt := 32) C dX5_sees_26 (by decide) (fun c7 => ?_) (fun c7 => ?_)
        · replace hf := ra_t hf c7
          refine rg_aload_n (pc := 32) C 0 rfl rfl dX5_sees_32 ?_
          refine rg_get (pc := 33) C 0 5 9 kd_0 (by decide) rfl inlX5 (by decide) wd_210 rfl dX5_sees_33 ?_
          refine rg_aload_n (pc := 36) C 0 rfl rfl dX5_sees_36 ?_
          refine rg_get (pc := 37) C 0 5 11 kd_0 (by decide) rfl inlX5 (by decide) wd_212 rfl dX5_sees_37 ?_
          refine rg_iload_n (pc := 40) C 1 rfl rfl dX5_sees_40 ?_
          obtain ⟨g8, hf⟩ := ra_gd hf
          refine rg_iast (pc := 41) (j := (ra_ix (w4 0 11))) C 33 kd_33 rfl g8 dX5_sees_41 ?_
          refine rg_aload_n (pc := 42) C 0 rfl rfl dX5_sees_42 ?_
          refine rg_get (pc := 43) C 0 5 10 kd_0 (by decide) rfl inlX5 (by decide) wd_211 rfl dX5_sees_43 ?_
          refine rg_aload_n (pc := 46) C 0 rfl rfl dX5_sees_46 ?_
          refine rg_get (pc := 47) C 0 5 11 kd_0 (by decide) rfl inlX5 (by decide) wd_212 rfl dX5_sees_47 ?_
          refine rg_iload_n (pc := 50) C 2 rfl rfl dX5_sees_50 ?_
          obtain ⟨g9, hf⟩ := ra_gd hf
          refine rg_iast (pc := 51) (j := (ra_ix ((ra_st w4 33 (ra_ix (w4 0 11)) v1) 0 11))) C 34 kd_34 rfl g9 dX5_sees_51 ?_
          refine rg_aload_n (pc := 52) C 0 rfl rfl dX5_sees_52 ?_
          refine rg_dup (pc := 53) C rfl dX5_sees_53 ?_
          refine rg_get (pc := 54) C 0 5 11 kd_0 (by decide) rfl inlX5 (by decide) wd_212 rfl dX5_sees_54 ?_
          refine rg_iconst (pc := 57) (v := 1) C dX5_sees_57 (by decide) ?_
          refine rg_iadd (pc := 58) C dX5_sees_58 ?_
          refine rg_put (pc := 59) C 0 5 11 kd_0 (by decide) rfl inlX5 tyX5 tyX5_ok nmX5 (by decide) wd_212 rfl rfl rfl (Nat.le_of_ble_eq_true rfl) rfl dX5_sees_59 ?_
          refine rg_aload_n (pc := 62) C 0 rfl rfl dX5_sees_62 ?_
          refine rg_get (pc := 63) C 0 5 11 kd_0 (by decide) rfl inlX5 (by decide) wd_212 rfl dX5_sees_63 ?_
          exact rg_iret (pc := 66) C hQ hr hf dX5_sees_66
        · replace hf := ra_f hf c7
          refine rg_bipush (pc := 29) (v := (-3)) C dX5_sees_29 (by decide) ?_
          exact rg_iret (pc := 31) C hQ hr hf dX5_sees_31
      · replace hf := ra_t hf c6
        refine rg_iconst (pc := 18) (v := (-1)) C dX5_sees_18 (by decide) ?_
        exact rg_iret (pc := 19) C hQ hr hf dX5_sees_19
theorem tX5_sees {Z : ra_Z} {r : Int32} {w1 : ra_W} (C : ra_C Z cX5_sees 3 RX5 1 20) (hQ : ra_QI Z r w1) (hr : (zmt Z).sig.returnType = (some .int)) (k : Nat) : ∀ n : Nat, pX5_sees_0 Z r w1 k n := by
  intro n
  induction n with
  | zero => exact (fun _ _ _ h => by cases h)
  | succ n ih => exact tX5_sees_0 C hQ hr k n
theorem kX5_sees (l : Launch) (G : ra_G) (hj : ra_inj G) (k : Nat) (v1 : Int32) (v2 : Int32) (w : ra_W) (r : Int32) (w1 : ra_W) (h : FX5_sees k v1 v2 w = some (r, w1)) : ra_MI l G yX5_sees cX5_sees 3 (some .int) 1 20 [.ref (G.1 0), .int v1, .int v2] w r w1 :=
  ra_entryI (own := RX5) (by decide) rfl (Nat.le_of_ble_eq_true rfl) hj (fun Z hl hG C hQ hr => by subst hl; subst hG; exact (tX5_sees C hQ hr k k) _ _ _ h)
theorem ysX5_sees : ra_YV yX5_sees cX5_sees 3 (some .int) 2 RX5 := ⟨⟨wd_1, wd_538, by decide, by decide, by decide⟩, wd_536, wd_537⟩
/-- TrunkRadio.forget -/
def fX5_forget (k : Nat) : Nat → Nat → ra_W → Option (Int32 × ra_W)
  | 0, _, _ => none
  | n + 1, L, w => match L with
    | _ => some ((w 0 11), (ra_st w 0 11 0))
theorem fX5_forget_0 (k : Nat) (n : Nat)  (w : ra_W) : fX5_forget k (n + 1) 0  w = (some ((w 0 11), (ra_st w 0 11 0))) := rfl
def FX5_forget (k : Nat)  (w : ra_W) : Option (Int32 × ra_W) := fX5_forget k k 0  w
def pX5_forget_0 (Z : ra_Z) (r : Int32) (w1 : ra_W) (k : Nat) (n : Nat) : Prop := ∀  (w : ra_W), fX5_forget k n 0  w = some (r, w1) → ra_J Z 2 0 [(0, .ref ((zG Z).1 0))] [] w
set_option maxHeartbeats 4000000 in
theorem tX5_forget_0 {Z : ra_Z} {r : Int32} {w1 : ra_W} (C : ra_C Z cX5_forget 2 RX5 0 0) (hQ : ra_QI Z r w1) (hr : (zmt Z).sig.returnType = (some .int)) (k : Nat) (n : Nat) : pX5_forget_0 Z r w1 k (n + 1) := by
  intro w hf
  rw [fX5_forget_0] at hf
  refine rg_aload_n (pc := 0) C 0 rfl rfl dX5_forget_0 ?_
  refine rg_get (pc := 1) C 0 5 11 kd_0 (by decide) rfl inlX5 (by decide) wd_212 rfl dX5_forget_1 ?_
  refine rg_istore_n (pc := 4) (lv' := [(0, .ref ((zG Z).1 0)), (1, .int (w 0 11))]) C [1, 0] rfl rfl (by decide) dX5_forget_4 ?_
  refine rg_aload_n (pc := 5) C 0 rfl rfl dX5_forget_5 ?_
  refine rg_iconst (pc := 6) (v := 0) C dX5_forget_6 (by decide) ?_
  refine rg_put (pc := 7) C 0 5 11 kd_0 (by decide) rfl inlX5 tyX5 tyX5_ok nmX5 (by decide) wd_212 rfl rfl rfl (Nat.le_of_ble_eq_true rfl) rfl dX5_forget_7 ?_
  refine rg_iload_n (pc := 10) C 1 rfl rfl dX5_forget_10 ?_
  exact rg_iret (pc := 11) C hQ hr hf dX5_forget_11
theorem tX5_forget {Z : ra_Z} {r : Int32} {w1 : ra_W} (C : ra_C Z cX5_forget 2 RX5 0 0) (hQ : ra_QI Z r w1) (hr : (zmt Z).sig.returnType = (some .int)) (k : Nat) : ∀ n : Nat, pX5_forget_0 Z r w1 k n := by
  intro n
  induction n with
  | zero => exact (fun _ h => by cases h)
  | succ n ih => exact tX5_forget_0 C hQ hr k n
theorem kX5_forget (l : Launch) (G : ra_G) (hj : ra_inj G) (k : Nat)  (w : ra_W) (r : Int32) (w1 : ra_W) (h : FX5_forget k  w = some (r, w1)) : ra_MI l G yX5_forget cX5_forget 2 (some .int) 0 0 [.ref (G.1 0)] w r w1 :=
  ra_entryI (own := RX5) (by decide) rfl (Nat.le_of_ble_eq_true rfl) hj (fun Z hl hG C hQ hr => by subst hl; subst hG; exact (tX5_forget C hQ hr k k) _ h)
theorem ysX5_forget : ra_YV yX5_forget cX5_forget 2 (some .int) 0 RX5 := ⟨⟨wd_1, wd_542, by decide, by decide, by decide⟩, wd_540, wd_541⟩
/-- TrunkRadio.timesOnAir -/
def fX5_timesOnAir (k : Nat) : Nat → Nat → Int32 → Int32 → Int32 → ra_W → Option (Int32 × ra_W)
  | 0, _, _, _, _, _ => none
  | n + 1, L, v1, v2, v3, w => match L with
    | 0 => ra_bind (FX4_copy k 23 16 w) (fun _ w2 => fX5_timesOnAir k n 1 v1 0 1 w2)
    | 1 => if 20 < v3 then (some (v2, w)) else (if ra_in v1 7 then if (w 25 (ra_ix v1)) = 0 then (some (v2, w)) else (ra_bind (FX0_pass k 8 23 w) (fun _ w5 => ra_bind (FX4_isOnAir k 23 v1 w5) (fun r7 w8 => if r7 = 0 then (fX5_timesOnAir k n 2 v1 v2 v3 w8) else (fX5_timesOnAir k n 2 v1 (v2 ||| (1 <<< (v3 &&& 31))) v3 w8)))) else none)
    | _ => fX5_timesOnAir k n 1 v1 v2 (v3 + 1) w
theorem fX5_timesOnAir_0 (k : Nat) (n : Nat) (v1 : Int32) (v2 : Int32) (v3 : Int32) (w : ra_W) : fX5_timesOnAir k (n + 1) 0 v1 v2 v3 w = (ra_bind (FX4_copy k 23 16 w) (fun _ w2 => fX5_timesOnAir k n 1 v1 0 1 w2)) := rfl
theorem fX5_timesOnAir_1 (k : Nat) (n : Nat) (v1 : Int32) (v2 : Int32) (v3 : Int32) (w : ra_W) : fX5_timesOnAir k (n + 1) 1 v1 v2 v3 w = (if 20 < v3 then (some (v2, w)) else (if ra_in v1 7 then if (w 25 (ra_ix v1)) = 0 then (some (v2, w)) else (ra_bind (FX0_pass k 8 23 w) (fun _ w5 => ra_bind (FX4_isOnAir k 23 v1 w5) (fun r7 w8 => if r7 = 0 then (fX5_timesOnAir k n 2 v1 v2 v3 w8) else (fX5_timesOnAir k n 2 v1 (v2 ||| (1 <<< (v3 &&& 31))) v3 w8)))) else none)) := rfl
theorem fX5_timesOnAir_2 (k : Nat) (n : Nat) (v1 : Int32) (v2 : Int32) (v3 : Int32) (w : ra_W) : fX5_timesOnAir k (n + 1) 2 v1 v2 v3 w = (fX5_timesOnAir k n 1 v1 v2 (v3 + 1) w) := rfl
def FX5_timesOnAir (k : Nat) (v1 : Int32) (w : ra_W) : Option (Int32 × ra_W) := fX5_timesOnAir k k 0 v1 0 0 w
def pX5_timesOnAir_0 (Z : ra_Z) (r : Int32) (w1 : ra_W) (k : Nat) (n : Nat) : Prop := ∀ (v1 : Int32) (v2 : Int32) (v3 : Int32) (w : ra_W), fX5_timesOnAir k n 0 v1 v2 v3 w = some (r, w1) → ra_J Z 4 0 [(0, .ref ((zG Z).1 0)), (1, .int v1)] [] w
def pX5_timesOnAir_1 (Z : ra_Z) (r : Int32) (w1 : ra_W) (k : Nat) (n : Nat) : Prop := ∀ (v1 : Int32) (v2 : Int32) (v3 : Int32) (w : ra_W), fX5_timesOnAir k n 1 v1 v2 v3 w = some (r, w1) → ra_J Z 4 15 [(0, .ref ((zG Z).1 0)), (1, .int v1), (2, .int v2), (3, .int v3)] [] w
def pX5_timesOnAir_2 (Z : ra_Z) (r : Int32) (w1 : ra_W) (k : Nat) (n : Nat) : Prop := ∀ (v1 : Int32) (v2 : Int32) (v3 : Int32) (w : ra_W), fX5_timesOnAir k n 2 v1 v2 v3 w = some (r, w1) → ra_J Z 4 65 [(0, .ref ((zG Z).1 0)), (1, .int v1), (2, .int v2), (3, .int v3)] [] w
set_option maxHeartbeats 4000000 in
theorem tX5_timesOnAir_0 {Z : ra_Z} {r : Int32} {w1 : ra_W} (C : ra_C Z cX5_timesOnAir 4 RX5 5 117) (hQ : ra_QI Z r w1) (hr : (zmt Z).sig.returnType = (some .int)) (k : Nat) (n : Nat) (ih1 : pX5_timesOnAir_1 Z r w1 k n) : pX5_timesOnAir_0 Z r w1 k (n + 1) := by
  intro v1 v2 v3 w hf
  rw [fX5_timesOnAir_0] at hf
  refine rg_iconst (pc := 0) (v := 0) C dX5_timesOnAir_0 (by decide) ?_
  refine rg_istore_n (pc := 1) (lv' := [(0, .ref ((zG Z).1 0)), (1, .int v1), (2, .int 0)]) C [1, 2, 0] rfl rfl (by decide) dX5_timesOnAir_1 ?_
  refine rg_aload_n (pc := 2) C 0 rfl rfl dX5_timesOnAir_2 ?_
  refine rg_get (pc := 3) C 0 5 5 kd_0 (by decide) rfl inlX5 (by decide) wd_206 rfl dX5_timesOnAir_3 ?_
  refine rg_aload_n (pc := 6) C 0 rfl rfl dX5_timesOnAir_6 ?_
  refine rg_get (pc := 7) C 0 5 4 kd_0 (by decide) rfl inlX5 (by decide) wd_205 rfl dX5_timesOnAir_7 ?_
  obtain ⟨r1, w2, e3, hf⟩ := ra_bd hf
  refine rg_callVV (pc := 10) (As := [.ref ((zG Z).1 16)]) (st := []) C (kX4_copy (zl Z) (zG Z) C.hj k 23 16 ra_S23 ra_S16 _ _ _ e3) kd_23 (by decide) rfl ysX4_copy rfl wd_484 ⟨Nat.le_of_ble_eq_true rfl, Nat.le_of_ble_eq_true rfl⟩ rfl (Nat.le_of_ble_eq_true rfl) dX5_timesOnAir_10 ?_
  refine rg_iconst (pc := 13) (v := 1) C dX5_timesOnAir_13 (by decide) ?_
  refine rg_istore_n (pc := 14) (lv' := [(0, .ref ((zG Z).1 0)), (1, .int v1), (2, .int 0), (3, .int 1)]) C [1, 2, 3, 0] rfl rfl (by decide) dX5_timesOnAir_14 ?_
  exact ih1 _ _ _ _ hf
set_option maxHeartbeats 4000000 in
theorem tX5_timesOnAir_1 {Z : ra_Z} {r : Int32} {w1 : ra_W} (C : ra_C Z cX5_timesOnAir 4 RX5 5 117) (hQ : ra_QI Z r w1) (hr : (zmt Z).sig.returnType = (some .int)) (k : Nat) (n : Nat) (ih2 : pX5_timesOnAir_2 Z r w1 k n) : pX5_timesOnAir_1 Z r w1 k (n + 1) := by
  intro v1 v2 v3 w hf
  rw [fX5_timesOnAir_1] at hf
  refine rg_iload_n (pc := 15) C 3 rfl rfl dX5_timesOnAir_15 ?_
  refine rg_bipush (pc := 16) (v := 20) C dX5_timesOnAir_16 (by decide) ?_
  refine rg_icmp_gt (pc := 18) (tgt := 71) C dX5_timesOnAir_18 (by decide) (fun c1 => ?_) (fun c1 => ?_)
  · replace hf := ra_t hf c1
    refine rg_iload_n (pc := 71) C 2 rfl rfl dX5_timesOnAir_71 ?_
    exact rg_iret (pc := 72) C hQ hr hf dX5_timesOnAir_72
  · replace hf := ra_f hf c1
    refine rg_aload_n (pc := 21) C 0 rfl rfl dX5_timesOnAir_21 ?_
    refine rg_get (pc := 22) C 0 5 5 kd_0 (by decide) rfl inlX5 (by decide) wd_206 rfl dX5_timesOnAir_22 ?_
    refine rg_get (pc := 25) C 23 4 1 kd_23 (by decide) rfl inlX4 (by decide) wd_135 rfl dX5_timesOnAir_25 ?_
    refine rg_iload_n (pc := 28) C 1 rfl rfl dX5_timesOnAir_28 ?_
    obtain ⟨g2, hf⟩ := ra_gd hf
    refine rg_iald (pc := 29) (j := (ra_ix v1)) C 25 kd_25 rfl g2 dX5_timesOnAir_29 ?_
    refine rg_if_eq (pc := 30) (tgt := 71) C dX5_timesOnAir_30 (by decide) (fun c3 => ?_) (fun c3 => ?_)
    · replace hf := ra_t hf c3
      refine rg_iload_n (pc := 71) C 2 rfl rfl dX5_timesOnAir_71 ?_
      exact rg_iret (pc := 72) C hQ hr hf dX5_timesOnAir_72
    · replace hf := ra_f hf c3
      refine rg_aload_n (pc := 33) C 0 rfl rfl dX5_timesOnAir_33 ?_
      refine rg_get (pc := 34) C 0 5 3 kd_0 (by decide) rfl inlX5 (by decide) wd_204 rfl dX5_timesOnAir_34 ?_
      refine rg_aload_n (pc := 37) C 0 rfl rfl dX5_timesOnAir_37 ?_
      refine rg_get (pc := 38) C 0 5 2 kd_0 (by decide) rfl inlX5 (by decide) wd_203 rfl dX5_timesOnAir_38 ?_
      refine rg_aload_n (pc := 41) C 0 rfl rfl dX5_timesOnAir_41 ?_
      refine rg_get (pc := 42) C 0 5 5 kd_0 (by decide) rfl inlX5 (by decide) wd_206 rfl dX5_timesOnAir_42 ?_
      obtain ⟨r4, w5, e6, hf⟩ := ra_bd hf
      refine rg_callVV (pc := 45) (As := [.ref ((zG Z).1 8), .ref ((zG Z).1 23)]) (st := []) C (kX0_pass (zl Z) (zG Z) C.hj k 8 23 ra_N8 ra_S23 _ _ _ e6) kd_13 (by decide) rfl ysX0_pass rfl wd_349 ⟨Nat.le_of_ble_eq_true rfl, Nat.le_of_ble_eq_true rfl⟩ rfl (Nat.le_of_ble_eq_true rfl) dX5_timesOnAir_45 ?_
      refine rg_aload_n (pc := 48) C 0 rfl rfl dX5_timesOnAir_48 ?_
      refine rg_get (pc := 49) C 0 5 5 kd_0 (by decide) rfl inlX5 (by decide) wd_206 rfl dX5_timesOnAir_49 ?_
      refine rg_iload_n (pc := 52) C 1 rfl rfl dX5_timesOnAir_52 ?_
      obtain ⟨r7, w8, e9, hf⟩ := ra_bd hf
      refine rg_callVI (pc := 53) (As := [.int v1]) (st := []) C (kX4_isOnAir (zl Z) (zG Z) C.hj k 23 ra_S23 _ _ _ _ e9) kd_23 (by decide) rfl ysX4_isOnAir rfl wd_417 ⟨Nat.le_of_ble_eq_true rfl, Nat.le_of_ble_eq_true rfl⟩ rfl (Nat.le_of_ble_eq_true rfl) dX5_timesOnAir_53 ?_
      refine rg_if_eq (pc := 56) (tgt := 65) C dX5_timesOnAir_56 (by decide) (fun c10 => ?_) (fun c10 => ?_)
      · replace hf := ra_t hf c10
        exact ih2 _ _ _ _ hf
      · replace hf := ra_f hf c10
        refine rg_iload_n (pc := 59) C 2 rfl rfl dX5_timesOnAir_59 ?_
        refine rg_iconst (pc := 60) (v := 1) C dX5_timesOnAir_60 (by decide) ?_
        refine rg_iload_n (pc := 61) C 3 rfl rfl dX5_timesOnAir_61 ?_
        refine rg_ishl (pc := 62) C dX5_timesOnAir_62 ?_
        refine rg_ior (pc := 63) C dX5_timesOnAir_63 ?_
        refine rg_istore_n (pc := 64) (lv' := [(0, .ref ((zG Z).1 0)), (1, .int v1), (2, .int (v2 ||| (1 <<< (v3 &&& 31)))), (3, .int v3)]) C [1, 2, 0, 3] rfl rfl (by decide) dX5_timesOnAir_64 ?_
        exact ih2 _ _ _ _ hf
set_option maxHeartbeats 4000000 in
theorem tX5_timesOnAir_2 {Z : ra_Z} {r : Int32} {w1 : ra_W} (C : ra_C Z cX5_timesOnAir 4 RX5 5 117) (hQ : ra_QI Z r w1) (hr : (zmt Z).sig.returnType = (some .int)) (k : Nat) (n : Nat) (ih1 : pX5_timesOnAir_1 Z r w1 k n) : pX5_timesOnAir_2 Z r w1 k (n + 1) := by
  intro v1 v2 v3 w hf
  rw [fX5_timesOnAir_2] at hf
  refine rg_iinc (pc := 65) (v := (v3 + 1)) (lv' := [(0, .ref ((zG Z).1 0)), (1, .int v1), (2, .int v2), (3, .int (v3 + 1))]) C 3 rfl [1, 2, 3, 0] (ra_ii (by decide)) rfl (by decide) dX5_timesOnAir_65 ?_
  refine rg_goto (pc := 68) (tgt := 15) C dX5_timesOnAir_68 (by decide) ?_
  exact ih1 _ _ _ _ hf
theorem tX5_timesOnAir {Z : ra_Z} {r : Int32} {w1 : ra_W} (C : ra_C Z cX5_timesOnAir 4 RX5 5 117) (hQ : ra_QI Z r w1) (hr : (zmt Z).sig.returnType = (some .int)) (k : Nat) : ∀ n : Nat, pX5_timesOnAir_0 Z r w1 k n ∧ pX5_timesOnAir_1 Z r w1 k n ∧ pX5_timesOnAir_2 Z r w1 k n := by
  intro n
  induction n with
  | zero => exact ⟨(fun _ _ _ _ h => by cases h), (fun _ _ _ _ h => by cases h), (fun _ _ _ _ h => by cases h)⟩
  | succ n ih =>
    obtain ⟨ih0, ih1, ih2⟩ := ih
    exact ⟨tX5_timesOnAir_0 C hQ hr k n ih1, tX5_timesOnAir_1 C hQ hr k n ih2, tX5_timesOnAir_2 C hQ hr k n ih1⟩
theorem kX5_timesOnAir (l : Launch) (G : ra_G) (hj : ra_inj G) (k : Nat) (v1 : Int32) (w : ra_W) (r : Int32) (w1 : ra_W) (h : FX5_timesOnAir k v1 w = some (r, w1)) : ra_MI l G yX5_timesOnAir cX5_timesOnAir 4 (some .int) 5 117 [.ref (G.1 0), .int v1] w r w1 :=
  ra_entryI (own := RX5) (by decide) rfl (Nat.le_of_ble_eq_true rfl) hj (fun Z hl hG C hQ hr => by subst hl; subst hG; exact (tX5_timesOnAir C hQ hr k k).1 _ _ _ _ h)
theorem ysX5_timesOnAir : ra_YV yX5_timesOnAir cX5_timesOnAir 4 (some .int) 1 RX5 := ⟨⟨wd_1, wd_554, by decide, by decide, by decide⟩, wd_553, wp_16⟩
/-- TrunkRadio.agreesWithSeen -/
def fX5_agreesWithSeen (k : Nat) : Nat → Nat → Int32 → Int32 → ra_W → Option (Int32 × ra_W)
  | 0, _, _, _, _ => none
  | n + 1, L, v1, v2, w => match L with
    | 0 => fX5_agreesWithSeen k n 1 v1 0 w
    | _ => if (w 0 11) ≤ v2 then (some (1, w)) else (if 6 ≤ v2 then (some (1, w)) else (if ra_in v2 6 then if ((v1 >>> ((w 33 (ra_ix v2)) &&& 31)) &&& 1) = (w 34 (ra_ix v2)) then (fX5_agreesWithSeen k n 1 v1 (v2 + 1) w) else (some (0, w)) else none))
theorem fX5_agreesWithSeen_0 (k : Nat) (n : Nat) (v1 : Int32) (v2 : Int32) (w : ra_W) : fX5_agreesWithSeen k (n + 1) 0 v1 v2 w = (fX5_agreesWithSeen k n 1 v1 0 w) := rfl
theorem fX5_agreesWithSeen_1 (k : Nat) (n : Nat) (v1 : Int32) (v2 : Int32) (w : ra_W) : fX5_agreesWithSeen k (n + 1) 1 v1 v2 w = (if (w 0 11) ≤ v2 then (some (1, w)) else (if 6 ≤ v2 then (some (1, w)) else (if ra_in v2 6 then if ((v1 >>> ((w 33 (ra_ix v2)) &&& 31)) &&& 1) = (w 34 (ra_ix v2)) then (fX5_agreesWithSeen k n 1 v1 (v2 + 1) w) else (some (0, w)) else none))) := rfl
def FX5_agreesWithSeen (k : Nat) (v1 : Int32) (w : ra_W) : Option (Int32 × ra_W) := fX5_agreesWithSeen k k 0 v1 0 w
def pX5_agreesWithSeen_0 (Z : ra_Z) (r : Int32) (w1 : ra_W) (k : Nat) (n : Nat) : Prop := ∀ (v1 : Int32) (v2 : Int32) (w : ra_W), fX5_agreesWithSeen k n 0 v1 v2 w = some (r, w1) → ra_J Z 3 0 [(0, .ref ((zG Z).1 0)), (1, .int v1)] [] w
def pX5_agreesWithSeen_1 (Z : ra_Z) (r : Int32) (w1 : ra_W) (k : Nat) (n : Nat) : Prop := ∀ (v1 : Int32) (v2 : Int32) (w : ra_W), fX5_agreesWithSeen k n 1 v1 v2 w = some (r, w1) → ra_J Z 3 2 [(0, .ref ((zG Z).1 0)), (1, .int v1), (2, .int v2)] [] w
set_option maxHeartbeats 4000000 in
theorem tX5_agreesWithSeen_0 {Z : ra_Z} {r : Int32} {w1 : ra_W} (C : ra_C Z cX5_agreesWithSeen 3 RX5 0 0) (hQ : ra_QI Z r w1) (hr : (zmt Z).sig.returnType = (some .boolean)) (k : Nat) (n : Nat) (ih1 : pX5_agreesWithSeen_1 Z r w1 k n) : pX5_agreesWithSeen_0 Z r w1 k (n + 1) := by
  intro v1 v2 w hf
  rw [fX5_agreesWithSeen_0] at hf
  refine rg_iconst (pc := 0) (v := 0) C dX5_agreesWithSeen_0 (by decide) ?_
  refine rg_istore_n (pc := 1) (lv' := [(0, .ref ((zG Z).1 0)), (1, .int v1), (2, .int 0)]) C [1, 2, 0] rfl rfl (by decide) dX5_agreesWithSeen_1 ?_
  exact ih1 _ _ _ hf
set_option maxHeartbeats 4000000 in
theorem tX5_agreesWithSeen_1 {Z : ra_Z} {r : Int32} {w1 : ra_W} (C : ra_C Z cX5_agreesWithSeen 3 RX5 0 0) (hQ : ra_QI Z r w1) (hr : (zmt Z).sig.returnType = (some .boolean)) (k : Nat) (n : Nat) (ih1 : pX5_agreesWithSeen_1 Z r w1 k n) : pX5_agreesWithSeen_1 Z r w1 k (n + 1) := by
  intro v1 v2 w hf
  rw [fX5_agreesWithSeen_1] at hf
  refine rg_iload_n (pc := 2) C 2 rfl rfl dX5_agreesWithSeen_2 ?_
  refine rg_aload_n (pc := 3) C 0 rfl rfl dX5_agreesWithSeen_3 ?_
  refine rg_get (pc := 4) C 0 5 11 kd_0 (by decide) rfl inlX5 (by decide) wd_212 rfl dX5_agreesWithSeen_4 ?_
  refine rg_icmp_ge (pc := 7) (tgt := 43) C dX5_agreesWithSeen_7 (by decide) (fun c1 => ?_) (fun c1 => ?_)
  · replace hf := ra_t hf c1
    refine rg_iconst (pc := 43) (v := 1) C dX5_agreesWithSeen_43 (by decide) ?_
    exact rg_zret (pc := 44) C hQ hr (by decide) hf dX5_agreesWithSeen_44
  · replace hf := ra_f hf c1
    refine rg_iload_n (pc := 10) C 2 rfl rfl dX5_agreesWithSeen_10 ?_
    refine rg_bipush (pc := 11) (v := 6) C dX5_agreesWithSeen_11 (by decide) ?_
    refine rg_icmp_ge (pc := 13) (tgt := 43) C dX5_agreesWithSeen_13 (by decide) (fun c2 => ?_) (fun c2 => ?_)
    · replace hf := ra_t hf c2
      refine rg_iconst (pc := 43) (v := 1) C dX5_agreesWithSeen_43 (by decide) ?_
      exact rg_zret (pc := 44) C hQ hr (by decide) hf dX5_agreesWithSeen_44
    · replace hf := ra_f hf c2
      refine rg_iload_n (pc := 16) C 1 rfl rfl dX5_agreesWithSeen_16 ?_
      refine rg_aload_n (pc := 17) C 0 rfl rfl dX5_agreesWithSeen_17 ?_
      refine rg_get (pc := 18) C 0 5 9 kd_0 (by decide) rfl inlX5 (by decide) wd_210 rfl dX5_agreesWithSeen_18 ?_
      refine rg_iload_n (pc := 21) C 2 rfl rfl dX5_agreesWithSeen_21 ?_
      obtain ⟨g3, hf⟩ := ra_gd hf
      refine rg_iald (pc := 22) (j := (ra_ix v2)) C 33 kd_33 rfl g3 dX5_agreesWithSeen_22 ?_
      refine rg_ishr (pc := 23) C dX5_agreesWithSeen_23 ?_
      refine rg_iconst (pc := 24) (v := 1) C dX5_agreesWithSeen_24 (by decide) ?_
      refine rg_iand (pc := 25) C dX5_agreesWithSeen_25 ?_
      refine rg_aload_n (pc := 26) C 0 rfl rfl dX5_agreesWithSeen_26 ?_
      refine rg_get (pc := 27) C 0 5 10 kd_0 (by decide) rfl inlX5 (by decide) wd_211 rfl dX5_agreesWithSeen_27 ?_
      refine rg_iload_n (pc := 30) C 2 rfl rfl dX5_agreesWithSeen_30 ?_
      refine rg_iald (pc := 31) (j := (ra_ix v2)) C 34 kd_34 rfl g3 dX5_agreesWithSeen_31 ?_
      refine rg_icmp_eq (pc := 32) (tgt := 37) C dX5_agreesWithSeen_32 (by decide) (fun c4 => ?_) (fun c4 => ?_)
      · replace hf := ra_t hf c4
        refine rg_iinc (pc := 37) (v := (v2 + 1)) (lv' := [(0, .ref ((zG Z).1 0)), (1, .int v1), (2, .int (v2 + 1))]) C 2 rfl [1, 2, 0] (ra_ii (by decide)) rfl (by decide) dX5_agreesWithSeen_37 ?_
        refine rg_goto (pc := 40) (tgt := 2) C dX5_agreesWithSeen_40 (by decide) ?_
        exact ih1 _ _ _ hf
      · replace hf := ra_f hf c4
        refine rg_iconst (pc := 35) (v := 0) C dX5_agreesWithSeen_35 (by decide) ?_
        exact rg_zret (pc := 36) C hQ hr (by decide) hf dX5_agreesWithSeen_36
theorem tX5_agreesWithSeen {Z : ra_Z} {r : Int32} {w1 : ra_W} (C : ra_C Z cX5_agreesWithSeen 3 RX5 0 0) (hQ : ra_QI Z r w1) (hr : (zmt Z).sig.returnType = (some .boolean)) (k : Nat) : ∀ n : Nat, pX5_agreesWithSeen_0 Z r w1 k n ∧ pX5_agreesWithSeen_1 Z r w1 k n := by
  intro n
  induction n with
  | zero => exact ⟨(fun _ _ _ h => by cases h), (fun _ _ _ h => by cases h)⟩
  | succ n ih =>
    obtain ⟨ih0, ih1⟩ := ih
    exact ⟨tX5_agreesWithSeen_0 C hQ hr k n ih1, tX5_agreesWithSeen_1 C hQ hr k n ih1⟩
theorem kX5_agreesWithSeen (l : Launch) (G : ra_G) (hj : ra_inj G) (k : Nat) (v1 : Int32) (w : ra_W) (r : Int32) (w1 : ra_W) (h : FX5_agreesWithSeen k v1 w = some (r, w1)) : ra_MI l G yX5_agreesWithSeen cX5_agreesWithSeen 3 (some .boolean) 0 0 [.ref (G.1 0), .int v1] w r w1 :=
  ra_entryI (own := RX5) (by decide) rfl (Nat.le_of_ble_eq_true rfl) hj (fun Z hl hG C hQ hr => by subst hl; subst hG; exact (tX5_agreesWithSeen C hQ hr k k).1 _ _ _ h)
theorem ysX5_agreesWithSeen : ra_YV yX5_agreesWithSeen cX5_agreesWithSeen 3 (some .boolean) 1 RX5 := ⟨⟨wd_1, wd_558, by decide, by decide, by decide⟩, wd_557, wp_17⟩
/-- TrunkRadio.ranksThatFit -/
def fX5_ranksThatFit (k : Nat) : Nat → Nat → Int32 → Int32 → Int32 → ra_W → Option (Int32 × ra_W)
  | 0, _, _, _, _, _ => none
  | n + 1, L, v1, v2, v3, w => match L with
    | 0 => ra_bind (FX2_copy k 8 3 w) (fun _ w2 => fX5_ranksThatFit k n 1 v1 0 0 w2)
    | 1 => if 4 ≤ v3 then (some (v2, w)) else (if ra_in v1 7 then ra_bind (FX5_timesOnAir k v1 (ra_st w 12 (ra_ix v1) v3)) (fun r3 w4 => if ra_in v3 4 then ra_bind (FX5_agreesWithSeen k ((ra_st w4 35 (ra_ix v3) r3) 35 (ra_ix v3)) (ra_st w4 35 (ra_ix v3) r3)) (fun r7 w8 => if r7 = 0 then (fX5_ranksThatFit k n 2 v1 v2 v3 w8) else (fX5_ranksThatFit k n 2 v1 (v2 ||| (1 <<< (v3 &&& 31))) v3 w8)) else none) else none)
    | _ => fX5_ranksThatFit k n 1 v1 v2 (v3 + 1) w
theorem fX5_ranksThatFit_0 (k : Nat) (n : Nat) (v1 : Int32) (v2 : Int32) (v3 : Int32) (w : ra_W) : fX5_ranksThatFit k (n + 1) 0 v1 v2 v3 w = (ra_bind (FX2_copy k 8 3 w) (fun _ w2 => fX5_ranksThatFit k n 1 v1 0 0 w2)) := rfl
theorem fX5_ranksThatFit_1 (k : Nat) (n : Nat) (v1 : Int32) (v2 : Int32) (v3 : Int32) (w : ra_W) : fX5_ranksThatFit k (n + 1) 1 v1 v2 v3 w = (if 4 ≤ v3 then (some (v2, w)) else (if ra_in v1 7 then ra_bind (FX5_timesOnAir k v1 (ra_st w 12 (ra_ix v1) v3)) (fun r3 w4 => if ra_in v3 4 then ra_bind (FX5_agreesWithSeen k ((ra_st w4 35 (ra_ix v3) r3) 35 (ra_ix v3)) (ra_st w4 35 (ra_ix v3) r3)) (fun r7 w8 => if r7 = 0 then (fX5_ranksThatFit k n 2 v1 v2 v3 w8) else (fX5_ranksThatFit k n 2 v1 (v2 ||| (1 <<< (v3 &&& 31))) v3 w8)) else none) else none)) := rfl
theorem fX5_ranksThatFit_2 (k : Nat) (n : Nat) (v1 : Int32) (v2 : Int32) (v3 : Int32) (w : ra_W) : fX5_ranksThatFit k (n + 1) 2 v1 v2 v3 w = (fX5_ranksThatFit k n 1 v1 v2 (v3 + 1) w) := rfl
def FX5_ranksThatFit (k : Nat) (v1 : Int32) (w : ra_W) : Option (Int32 × ra_W) := fX5_ranksThatFit k k 0 v1 0 0 w
def pX5_ranksThatFit_0 (Z : ra_Z) (r : Int32) (w1 : ra_W) (k : Nat) (n : Nat) : Prop := ∀ (v1 : Int32) (v2 : Int32) (v3 : Int32) (w : ra_W), fX5_ranksThatFit k n 0 v1 v2 v3 w = some (r, w1) → ra_J Z 4 0 [(0, .ref ((zG Z).1 0)), (1, .int v1)] [] w
def pX5_ranksThatFit_1 (Z : ra_Z) (r : Int32) (w1 : ra_W) (k : Nat) (n : Nat) : Prop := ∀ (v1 : Int32) (v2 : Int32) (v3 : Int32) (w : ra_W), fX5_ranksThatFit k n 1 v1 v2 v3 w = some (r, w1) → ra_J Z 4 15 [(0, .ref ((zG Z).1 0)), (1, .int v1), (2, .int v2), (3, .int v3)] [] w
def pX5_ranksThatFit_2 (Z : ra_Z) (r : Int32) (w1 : ra_W) (k : Nat) (n : Nat) : Prop := ∀ (v1 : Int32) (v2 : Int32) (v3 : Int32) (w : ra_W), fX5_ranksThatFit k n 2 v1 v2 v3 w = some (r, w1) → ra_J Z 4 60 [(0, .ref ((zG Z).1 0)), (1, .int v1), (2, .int v2), (3, .int v3)] [] w
set_option maxHeartbeats 4000000 in
theorem tX5_ranksThatFit_0 {Z : ra_Z} {r : Int32} {w1 : ra_W} (C : ra_C Z cX5_ranksThatFit 4 RX5 6 140) (hQ : ra_QI Z r w1) (hr : (zmt Z).sig.returnType = (some .int)) (k : Nat) (n : Nat) (ih1 : pX5_ranksThatFit_1 Z r w1 k n) : pX5_ranksThatFit_0 Z r w1 k (n + 1) := by
  intro v1 v2 v3 w hf
  rw [fX5_ranksThatFit_0] at hf
  refine rg_iconst (pc := 0) (v := 0) C dX5_ranksThatFit_0 (by decide) ?_
  refine rg_istore_n (pc := 1) (lv' := [(0, .ref ((zG Z).1 0)), (1, .int v1), (2, .int 0)]) C [1, 2, 0] rfl rfl (by decide) dX5_ranksThatFit_1 ?_
  refine rg_aload_n (pc := 2) C 0 rfl rfl dX5_ranksThatFit_2 ?_
  refine rg_get (pc := 3) C 0 5 2 kd_0 (by decide) rfl inlX5 (by decide) wd_203 rfl dX5_ranksThatFit_3 ?_
  refine rg_aload_n (pc := 6) C 0 rfl rfl dX5_ranksThatFit_6 ?_
  refine rg_get (pc := 7) C 0 5 1 kd_0 (by decide) rfl inlX5 (by decide) wd_202 rfl dX5_ranksThatFit_7 ?_
  obtain ⟨r1, w2, e3, hf⟩ := ra_bd hf
  refine rg_callVV (pc := 10) (As := [.ref ((zG Z).1 3)]) (st := []) C (kX2_copy (zl Z) (zG Z) C.hj k 8 3 ra_N8 ra_N3 _ _ _ e3) kd_8 (by decide) rfl ysX2_copy rfl wd_312 ⟨Nat.le_of_ble_eq_true rfl, Nat.le_of_ble_eq_true rfl⟩ rfl (Nat.le_of_ble_eq_true rfl) dX5_ranksThatFit_10 ?_
  refine rg_iconst (pc := 13) (v := 0) C dX5_ranksThatFit_13 (by decide) ?_
  refine rg_istore_n (pc := 14) (lv' := [(0, .ref ((zG Z).1 0)), (1, .int v1), (2, .int 0), (3, .int 0)]) C [1, 2, 3, 0] rfl rfl (by decide) dX5_ranksThatFit_14 ?_
  exact ih1 _ _ _ _ hf
set_option maxHeartbeats 4000000 in
theorem tX5_ranksThatFit_1 {Z : ra_Z} {r : Int32} {w1 : ra_W} (C : ra_C Z cX5_ranksThatFit 4 RX5 6 140) (hQ : ra_QI Z r w1) (hr : (zmt Z).sig.returnType = (some .int)) (k : Nat) (n : Nat) (ih2 : pX5_ranksThatFit_2 Z r w1 k n) : pX5_ranksThatFit_1 Z r w1 k (n + 1) := by
  intro v1 v2 v3 w hf
  rw [fX5_ranksThatFit_1] at hf
  refine rg_iload_n (pc := 15) C 3 rfl rfl dX5_ranksThatFit_15 ?_
  refine rg_iconst (pc := 16) (v := 4) C dX5_ranksThatFit_16 (by decide) ?_
  refine rg_icmp_ge (pc := 17) (tgt := 66) C dX5_ranksThatFit_17 (by decide) (fun c1 => ?_) (fun c1 => ?_)
  · replace hf := ra_t hf c1
    refine rg_iload_n (pc := 66) C 2 rfl rfl dX5_ranksThatFit_66 ?_
    exact rg_iret (pc := 67) C hQ hr hf dX5_ranksThatFit_67
  · replace hf := ra_f hf c1
    refine rg_aload_n (pc := 20) C 0 rfl rfl dX5_ranksThatFit_20 ?_
    refine rg_get (pc := 21) C 0 5 2 kd_0 (by decide) rfl inlX5 (by decide) wd_203 rfl dX5_ranksThatFit_21 ?_
    refine rg_get (pc := 24) C 8 2 6 kd_8 (by decide) rfl inlX2 (by decide) wd_93 rfl dX5_ranksThatFit_24 ?_
    refine rg_iload_n (pc := 27) C 1 rfl rfl dX5_ranksThatFit_27 ?_
    refine rg_iload_n (pc := 28) C 3 rfl rfl dX5_ranksThatFit_28 ?_
    obtain ⟨g2, hf⟩ := ra_gd hf
    refine rg_iast (pc := 29) (j := (ra_ix v1)) C 12 kd_12 rfl g2 dX5_ranksThatFit_29 ?_
    refine rg_aload_n (pc := 30) C 0 rfl rfl dX5_ranksThatFit_30 ?_
    refine rg_get (pc := 31) C 0 5 12 kd_0 (by decide) rfl inlX5 (by decide) wd_213 rfl dX5_ranksThatFit_31 ?_
    refine rg_iload_n (pc := 34) C 3 rfl rfl dX5_ranksThatFit_34 ?_
    refine rg_aload_n (pc := 35) C 0 rfl rfl dX5_ranksThatFit_35 ?_
    refine rg_iload_n (pc := 36) C 1 rfl rfl dX5_ranksThatFit_36 ?_
    obtain ⟨r3, w4, e5, hf⟩ := ra_bd hf
    refine rg_callVI (pc := 37) (As := [.int v1]) (st := [.int v3, .ref ((zG Z).1 35)]) C (kX5_timesOnAir (zl Z) (zG Z) C.hj k _ _ _ _ e5) kd_0 (by decide) rfl ysX5_timesOnAir rfl wd_551 ⟨Nat.le_of_ble_eq_true rfl, Nat.le_of_ble_eq_true rfl⟩ rfl (Nat.le_of_ble_eq_true rfl) dX5_ranksThatFit_37 ?_
    obtain ⟨g6, hf⟩ := ra_gd hf
    refine rg_iast (pc := 40) (j := (ra_ix v3)) C 35 kd_35 rfl g6 dX5_ranksThatFit_40 ?_
    refine rg_aload_n (pc := 41) C 0 rfl rfl dX5_ranksThatFit_41 ?_
    refine rg_aload_n (pc := 42) C 0 rfl rfl dX5_ranksThatFit_42 ?_
    refine rg_get (pc := 43) C 0 5 12 kd_0 (by decide) rfl inlX5 (by decide) wd_213 rfl dX5_ranksThatFit_43 ?_
    refine rg_iload_n (pc := 46) C 3 rfl rfl dX5_ranksThatFit_46 ?_
    refine rg_iald (pc := 47) (j := (ra_ix v3)) C 35 kd_35 rfl g6 dX5_ranksThatFit_47 ?_
    obtain ⟨r7, w8, e9, hf⟩ := ra_bd hf
    refine rg_callVI (pc := 48) (As := [.int ((ra_st w4 35 (ra_ix v3) r3) 35 (ra_ix v3))]) (st := []) C (kX5_agreesWithSeen (zl Z) (zG Z) C.hj k _ _ _ _ e9) kd_0 (by decide) rfl ysX5_agreesWithSeen rfl wd_555 ⟨Nat.le_of_ble_eq_true rfl, Nat.le_of_ble_eq_true rfl⟩ rfl (Nat.le_of_ble_eq_true rfl) dX5_ranksThatFit_48 ?_
    refine rg_if_eq (pc := 51) (tgt := 60) C dX5_ranksThatFit_51 (by decide) (fun c10 => ?_) (fun c10 => ?_)
    · replace hf := ra_t hf c10
      exact ih2 _ _ _ _ hf
    · replace hf := ra_f hf c10
      refine rg_iload_n (pc := 54) C 2 rfl rfl dX5_ranksThatFit_54 ?_
      refine rg_iconst (pc := 55) (v := 1) C dX5_ranksThatFit_55 (by decide) ?_
      refine rg_iload_n (pc := 56) C 3 rfl rfl dX5_ranksThatFit_56 ?_
      refine rg_ishl (pc := 57) C dX5_ranksThatFit_57 ?_
      refine rg_ior (pc := 58) C dX5_ranksThatFit_58 ?_
      refine rg_istore_n (pc := 59) (lv' := [(0, .ref ((zG Z).1 0)), (1, .int v1), (2, .int (v2 ||| (1 <<< (v3 &&& 31)))), (3, .int v3)]) C [1, 2, 0, 3] rfl rfl (by decide) dX5_ranksThatFit_59 ?_
      exact ih2 _ _ _ _ hf
set_option maxHeartbeats 4000000 in
theorem tX5_ranksThatFit_2 {Z : ra_Z} {r : Int32} {w1 : ra_W} (C : ra_C Z cX5_ranksThatFit 4 RX5 6 140) (hQ : ra_QI Z r w1) (hr : (zmt Z).sig.returnType = (some .int)) (k : Nat) (n : Nat) (ih1 : pX5_ranksThatFit_1 Z r w1 k n) : pX5_ranksThatFit_2 Z r w1 k (n + 1) := by
  intro v1 v2 v3 w hf
  rw [fX5_ranksThatFit_2] at hf
  refine rg_iinc (pc := 60) (v := (v3 + 1)) (lv' := [(0, .ref ((zG Z).1 0)), (1, .int v1), (2, .int v2), (3, .int (v3 + 1))]) C 3 rfl [1, 2, 3, 0] (ra_ii (by decide)) rfl (by decide) dX5_ranksThatFit_60 ?_
  refine rg_goto (pc := 63) (tgt := 15) C dX5_ranksThatFit_63 (by decide) ?_
  exact ih1 _ _ _ _ hf
theorem tX5_ranksThatFit {Z : ra_Z} {r : Int32} {w1 : ra_W} (C : ra_C Z cX5_ranksThatFit 4 RX5 6 140) (hQ : ra_QI Z r w1) (hr : (zmt Z).sig.returnType = (some .int)) (k : Nat) : ∀ n : Nat, pX5_ranksThatFit_0 Z r w1 k n ∧ pX5_ranksThatFit_1 Z r w1 k n ∧ pX5_ranksThatFit_2 Z r w1 k n := by
  intro n
  induction n with
  | zero => exact ⟨(fun _ _ _ _ h => by cases h), (fun _ _ _ _ h => by cases h), (fun _ _ _ _ h => by cases h)⟩
  | succ n ih =>
    obtain ⟨ih0, ih1, ih2⟩ := ih
    exact ⟨tX5_ranksThatFit_0 C hQ hr k n ih1, tX5_ranksThatFit_1 C hQ hr k n ih2, tX5_ranksThatFit_2 C hQ hr k n ih1⟩
theorem kX5_ranksThatFit (l : Launch) (G : ra_G) (hj : ra_inj G) (k : Nat) (v1 : Int32) (w : ra_W) (r : Int32) (w1 : ra_W) (h : FX5_ranksThatFit k v1 w = some (r, w1)) : ra_MI l G yX5_ranksThatFit cX5_ranksThatFit 4 (some .int) 6 140 [.ref (G.1 0), .int v1] w r w1 :=
  ra_entryI (own := RX5) (by decide) rfl (Nat.le_of_ble_eq_true rfl) hj (fun Z hl hG C hQ hr => by subst hl; subst hG; exact (tX5_ranksThatFit C hQ hr k k).1 _ _ _ _ h)
theorem ysX5_ranksThatFit : ra_YV yX5_ranksThatFit cX5_ranksThatFit 4 (some .int) 1 RX5 := ⟨⟨wd_1, wd_550, by decide, by decide, by decide⟩, wd_549, wp_15⟩
/-- TrunkRadio.ranks -/
def fX5_ranks (k : Nat) : Nat → Nat → Int32 → ra_W → Option (Int32 × ra_W)
  | 0, _, _, _ => none
  | n + 1, L, v1, w => match L with
    | _ => ra_bind (FX2_has k 3 v1 w) (fun r1 w2 => if r1 = 0 then (some ((-1), w2)) else (ra_bind (FX5_ranksThatFit k v1 w2) (fun r5 w6 => some (r5, w6))))
theorem fX5_ranks_0 (k : Nat) (n : Nat) (v1 : Int32) (w : ra_W) : fX5_ranks k (n + 1) 0 v1 w = (ra_bind (FX2_has k 3 v1 w) (fun r1 w2 => if r1 = 0 then (some ((-1), w2)) else (ra_bind (FX5_ranksThatFit k v1 w2) (fun r5 w6 => some (r5, w6))))) := rfl
def FX5_ranks (k : Nat) (v1 : Int32) (w : ra_W) : Option (Int32 × ra_W) := fX5_ranks k k 0 v1 w
def pX5_ranks_0 (Z : ra_Z) (r : Int32) (w1 : ra_W) (k : Nat) (n : Nat) : Prop := ∀ (v1 : Int32) (w : ra_W), fX5_ranks k n 0 v1 w = some (r, w1) → ra_J Z 2 0 [(0, .ref ((zG Z).1 0)), (1, .int v1)] [] w
set_option maxHeartbeats 4000000 in
theorem tX5_ranks_0 {Z : ra_Z} {r : Int32} {w1 : ra_W} (C : ra_C Z cX5_ranks 2 RX5 7 163) (hQ : ra_QI Z r w1) (hr : (zmt Z).sig.returnType = (some .int)) (k : Nat) (n : Nat) : pX5_ranks_0 Z r w1 k (n + 1) := by
  intro v1 w hf
  rw [fX5_ranks_0] at hf
  refine rg_aload_n (pc := 0) C 0 rfl rfl dX5_ranks_0 ?_
  refine rg_get (pc := 1) C 0 5 1 kd_0 (by decide) rfl inlX5 (by decide) wd_202 rfl dX5_ranks_1 ?_
  refine rg_iload_n (pc := 4) C 1 rfl rfl dX5_ranks_4 ?_
  obtain ⟨r1, w2, e3, hf⟩ := ra_bd hf
  refine rg_callVI (pc := 5) (As := [.int v1]) (st := []) C (kX2_has (zl Z) (zG Z) C.hj k 3 ra_N3 _ _ _ _ e3) kd_3 (by decide) rfl ysX2_has rfl wd_425 ⟨Nat.le_of_ble_eq_true rfl, Nat.le_of_ble_eq_true rfl⟩ rfl (Nat.le_of_ble_eq_true rfl) dX5_ranks_5 ?_
  refine rg_if_eq (pc := 8) (tgt := 19) C dX5_ranks_8 (by decide) (fun c4 => ?_) (fun c4 => ?_)
  · replace hf := ra_t hf c4
    refine rg_iconst (pc := 19) (v := (-1)) C dX5_ranks_19 (by decide) ?_
    exact rg_iret (pc := 20) C hQ hr hf dX5_ranks_20
  · replace hf := ra_f hf c4
    refine rg_aload_n (pc := 11) C 0 rfl rfl dX5_ranks_11 ?_
    refine rg_iload_n (pc := 12) C 1 rfl rfl dX5_ranks_12 ?_
    obtain ⟨r5, w6, e7, hf⟩ := ra_bd hf
    refine rg_callVI (pc := 13) (As := [.int v1]) (st := []) C (kX5_ranksThatFit (zl Z) (zG Z) C.hj k _ _ _ _ e7) kd_0 (by decide) rfl ysX5_ranksThatFit rfl wd_547 ⟨Nat.le_of_ble_eq_true rfl, Nat.le_of_ble_eq_true rfl⟩ rfl (Nat.le_of_ble_eq_true rfl) dX5_ranks_13 ?_
    refine rg_goto (pc := 16) (tgt := 20) C dX5_ranks_16 (by decide) ?_
    exact rg_iret (pc := 20) C hQ hr hf dX5_ranks_20
theorem tX5_ranks {Z : ra_Z} {r : Int32} {w1 : ra_W} (C : ra_C Z cX5_ranks 2 RX5 7 163) (hQ : ra_QI Z r w1) (hr : (zmt Z).sig.returnType = (some .int)) (k : Nat) : ∀ n : Nat, pX5_ranks_0 Z r w1 k n := by
  intro n
  induction n with
  | zero => exact (fun _ _ h => by cases h)
  | succ n ih => exact tX5_ranks_0 C hQ hr k n
theorem kX5_ranks (l : Launch) (G : ra_G) (hj : ra_inj G) (k : Nat) (v1 : Int32) (w : ra_W) (r : Int32) (w1 : ra_W) (h : FX5_ranks k v1 w = some (r, w1)) : ra_MI l G yX5_ranks cX5_ranks 2 (some .int) 7 163 [.ref (G.1 0), .int v1] w r w1 :=
  ra_entryI (own := RX5) (by decide) rfl (Nat.le_of_ble_eq_true rfl) hj (fun Z hl hG C hQ hr => by subst hl; subst hG; exact (tX5_ranks C hQ hr k k) _ _ h)
theorem ysX5_ranks : ra_YV yX5_ranks cX5_ranks 2 (some .int) 1 RX5 := ⟨⟨wd_1, wd_546, by decide, by decide, by decide⟩, wd_544, wd_545⟩
/-- TrunkRadio.ranksOnAir -/
def fX5_ranksOnAir (k : Nat) : Nat → Nat → Int32 → Int32 → Int32 → Int32 → ra_W → Option (Int32 × ra_W)
  | 0, _, _, _, _, _, _ => none
  | n + 1, L, v1, v2, v3, v4, w => match L with
    | 0 => fX5_ranksOnAir k n 1 v1 v2 0 0 w
    | 1 => if 4 ≤ v4 then (some (v3, w)) else (if ((v1 >>> (v4 &&& 31)) &&& 1) = 1 then (if ra_in v4 4 then fX5_ranksOnAir k n 2 v1 v2 (v3 + (((w 35 (ra_ix v4)) >>> (v2 &&& 31)) &&& 1)) v4 w else none) else (fX5_ranksOnAir k n 2 v1 v2 v3 v4 w))
    | _ => fX5_ranksOnAir k n 1 v1 v2 v3 (v4 + 1) w
theorem fX5_ranksOnAir_0 (k : Nat) (n : Nat) (v1 : Int32) (v2 : Int32) (v3 : Int32) (v4 : Int32) (w : ra_W) : fX5_ranksOnAir k (n + 1) 0 v1 v2 v3 v4 w = (fX5_ranksOnAir k n 1 v1 v2 0 0 w) := rfl
theorem fX5_ranksOnAir_1 (k : Nat) (n : Nat) (v1 : Int32) (v2 : Int32) (v3 : Int32) (v4 : Int32) (w : ra_W) : fX5_ranksOnAir k (n + 1) 1 v1 v2 v3 v4 w = (if 4 ≤ v4 then (some (v3, w)) else (if ((v1 >>> (v4 &&& 31)) &&& 1) = 1 then (if ra_in v4 4 then fX5_ranksOnAir k n 2 v1 v2 (v3 + (((w 35 (ra_ix v4)) >>> (v2 &&& 31)) &&& 1)) v4 w else none) else (fX5_ranksOnAir k n 2 v1 v2 v3 v4 w))) := rfl
theorem fX5_ranksOnAir_2 (k : Nat) (n : Nat) (v1 : Int32) (v2 : Int32) (v3 : Int32) (v4 : Int32) (w : ra_W) : fX5_ranksOnAir k (n + 1) 2 v1 v2 v3 v4 w = (fX5_ranksOnAir k n 1 v1 v2 v3 (v4 + 1) w) := rfl
def FX5_ranksOnAir (k : Nat) (v1 : Int32) (v2 : Int32) (w : ra_W) : Option (Int32 × ra_W) := fX5_ranksOnAir k k 0 v1 v2 0 0 w
def pX5_ranksOnAir_0 (Z : ra_Z) (r : Int32) (w1 : ra_W) (k : Nat) (n : Nat) : Prop := ∀ (v1 : Int32) (v2 : Int32) (v3 : Int32) (v4 : Int32) (w : ra_W), fX5_ranksOnAir k n 0 v1 v2 v3 v4 w = some (r, w1) → ra_J Z 5 0 [(0, .ref ((zG Z).1 0)), (1, .int v1), (2, .int v2)] [] w
def pX5_ranksOnAir_1 (Z : ra_Z) (r : Int32) (w1 : ra_W) (k : Nat) (n : Nat) : Prop := ∀ (v1 : Int32) (v2 : Int32) (v3 : Int32) (v4 : Int32) (w : ra_W), fX5_ranksOnAir k n 1 v1 v2 v3 v4 w = some (r, w1) → ra_J Z 5 5 [(0, .ref ((zG Z).1 0)), (1, .int v1), (2, .int v2), (3, .int v3), (4, .int v4)] [] w
def pX5_ranksOnAir_2 (Z : ra_Z) (r : Int32) (w1 : ra_W) (k : Nat) (n : Nat) : Prop := ∀ (v1 : Int32) (v2 : Int32) (v3 : Int32) (v4 : Int32) (w : ra_W), fX5_ranksOnAir k n 2 v1 v2 v3 v4 w = some (r, w1) → ra_J Z 5 35 [(0, .ref ((zG Z).1 0)), (1, .int v1), (2, .int v2), (3, .int v3), (4, .int v4)] [] w
set_option maxHeartbeats 4000000 in
theorem tX5_ranksOnAir_0 {Z : ra_Z} {r : Int32} {w1 : ra_W} (C : ra_C Z cX5_ranksOnAir 5 RX5 0 0) (hQ : ra_QI Z r w1) (hr : (zmt Z).sig.returnType = (some .int)) (k : Nat) (n : Nat) (ih1 : pX5_ranksOnAir_1 Z r w1 k n) : pX5_ranksOnAir_0 Z r w1 k (n + 1) := by
  intro v1 v2 v3 v4 w hf
  rw [fX5_ranksOnAir_0] at hf
  refine rg_iconst (pc := 0) (v := 0) C dX5_ranksOnAir_0 (by decide) ?_
  refine rg_istore_n (pc := 1) (lv' := [(0, .ref ((zG Z).1 0)), (1, .int v1), (2, .int v2), (3, .int 0)]) C [1, 2, 3, 0] rfl rfl (by decide) dX5_ranksOnAir_1 ?_
  refine rg_iconst (pc := 2) (v := 0) C dX5_ranksOnAir_2 (by decide) ?_
  refine rg_istore (pc := 3) (lv' := [(0, .ref ((zG Z).1 0)), (1, .int v1), (2, .int v2), (3, .int 0), (4, .int 0)]) C [1, 2, 3, 4, 0] rfl (by decide) dX5_ranksOnAir_3 ?_
  exact ih1 _ _ _ _ _ hf
set_option maxHeartbeats 4000000 in
theorem tX5_ranksOnAir_1 {Z : ra_Z} {r : Int32} {w1 : ra_W} (C : ra_C Z cX5_ranksOnAir 5 RX5 0 0) (hQ : ra_QI Z r w1) (hr : (zmt Z).sig.returnType = (some .int)) (k : Nat) (n : Nat) (ih2 : pX5_ranksOnAir_2 Z r w1 k n) : pX5_ranksOnAir_1 Z r w1 k (n + 1) := by
  intro v1 v2 v3 v4 w hf
  rw [fX5_ranksOnAir_1] at hf
  refine rg_iload (pc := 5) C 4 rfl dX5_ranksOnAir_5 ?_
  refine rg_iconst (pc := 7) (v := 4) C dX5_ranksOnAir_7 (by decide) ?_
  refine rg_icmp_ge (pc := 8) (tgt := 41) C dX5_ranksOnAir_8 (by decide) (fun c1 => ?_) (fun c1 => ?_)
  · replace hf := ra_t hf c1
    refine rg_iload_n (pc := 41) C 3 rfl rfl dX5_ranksOnAir_41 ?_
    exact rg_iret (pc := 42) C hQ hr hf dX5_ranksOnAir_42
  · replace hf := ra_f hf c1
    refine rg_iload_n (pc := 11) C 1 rfl rfl dX5_ranksOnAir_11 ?_
    refine rg_iload (pc := 12) C 4 rfl dX5_ranksOnAir_12 ?_
    refine rg_ishr (pc := 14) C dX5_ranksOnAir_14 ?_
    refine rg_iconst (pc := 15) (v := 1) C dX5_ranksOnAir_15 (by decide) ?_
    refine rg_iand (pc := 16) C dX5_ranksOnAir_16 ?_
    refine rg_iconst (pc := 17) (v := 1) C dX5_ranksOnAir_17 (by decide) ?_
    refine rg_icmp_ne (pc := 18) (tgt := 35) C dX5_ranksOnAir_18 (by decide) (fun c2 => ?_) (fun c2 => ?_)
    · replace hf := ra_f hf c2
      exact ih2 _ _ _ _ _ hf
    · replace hf := ra_t hf c2
      refine rg_iload_n (pc := 21) C 3 rfl rfl dX5_ranksOnAir_21 ?_
      refine rg_aload_n (pc := 22) C 0 rfl rfl dX5_ranksOnAir_22 ?_
      refine rg_get (pc := 23) C 0 5 12 kd_0 (by decide) rfl inlX5 (by decide) wd_213 rfl dX5_ranksOnAir_23 ?_
      refine rg_iload (pc := 26) C 4 rfl dX5_ranksOnAir_26 ?_
      obtain ⟨g3, hf⟩ := ra_gd hf
      refine rg_iald (pc := 28) (j := (ra_ix v4)) C 35 kd_35 rfl g3 dX5_ranksOnAir_28 ?_
      refine rg_iload_n (pc := 29) C 2 rfl rfl dX5_ranksOnAir_29 ?_
      refine rg_ishr (pc := 30) C dX5_ranksOnAir_30 ?_
      refine rg_iconst (pc := 31) (v := 1) C dX5_ranksOnAir_31 (by decide) ?_
      refine rg_iand (pc := 32) C dX5_ranksOnAir_32 ?_
      refine rg_iadd (pc := 33) C dX5_ranksOnAir_33 ?_
      refine rg_istore_n (pc := 34) (lv' := [(0, .ref ((zG Z).1 0)), (1, .int v1), (2, .int v2), (3, .int (v3 + (((w 35 (ra_ix v4)) >>> (v2 &&& 31)) &&& 1))), (4, .int v4)]) C [1, 2, 3, 0, 4] rfl rfl (by decide) dX5_ranksOnAir_34 ?_
      exact ih2 _ _ _ _ _ hf
set_option maxHeartbeats 4000000 in
theorem tX5_ranksOnAir_2 {Z : ra_Z} {r : Int32} {w1 : ra_W} (C : ra_C Z cX5_ranksOnAir 5 RX5 0 0) (hQ : ra_QI Z r w1) (hr : (zmt Z).sig.returnType = (some .int)) (k : Nat) (n : Nat) (ih1 : pX5_ranksOnAir_1 Z r w1 k n) : pX5_ranksOnAir_2 Z r w1 k (n + 1) := by
  intro v1 v2 v3 v4 w hf
  rw [fX5_ranksOnAir_2] at hf
  refine rg_iinc (pc := 35) (v := (v4 + 1)) (lv' := [(0, .ref ((zG Z).1 0)), (1, .int v1), (2, .int v2), (3, .int v3), (4, .int (v4 + 1))]) C 4 rfl [1, 2, 3, 4, 0] (ra_ii (by decide)) rfl (by decide) dX5_ranksOnAir_35 ?_
  refine rg_goto (pc := 38) (tgt := 5) C dX5_ranksOnAir_38 (by decide) ?_
  exact ih1 _ _ _ _ _ hf
theorem tX5_ranksOnAir {Z : ra_Z} {r : Int32} {w1 : ra_W} (C : ra_C Z cX5_ranksOnAir 5 RX5 0 0) (hQ : ra_QI Z r w1) (hr : (zmt Z).sig.returnType = (some .int)) (k : Nat) : ∀ n : Nat, pX5_ranksOnAir_0 Z r w1 k n ∧ pX5_ranksOnAir_1 Z r w1 k n ∧ pX5_ranksOnAir_2 Z r w1 k n := by
  intro n
  induction n with
  | zero => exact ⟨(fun _ _ _ _ _ h => by cases h), (fun _ _ _ _ _ h => by cases h), (fun _ _ _ _ _ h => by cases h)⟩
  | succ n ih =>
    obtain ⟨ih0, ih1, ih2⟩ := ih
    exact ⟨tX5_ranksOnAir_0 C hQ hr k n ih1, tX5_ranksOnAir_1 C hQ hr k n ih2, tX5_ranksOnAir_2 C hQ hr k n ih1⟩
theorem kX5_ranksOnAir (l : Launch) (G : ra_G) (hj : ra_inj G) (k : Nat) (v1 : Int32) (v2 : Int32) (w : ra_W) (r : Int32) (w1 : ra_W) (h : FX5_ranksOnAir k v1 v2 w = some (r, w1)) : ra_MI l G yX5_ranksOnAir cX5_ranksOnAir 5 (some .int) 0 0 [.ref (G.1 0), .int v1, .int v2] w r w1 :=
  ra_entryI (own := RX5) (by decide) rfl (Nat.le_of_ble_eq_true rfl) hj (fun Z hl hG C hQ hr => by subst hl; subst hG; exact (tX5_ranksOnAir C hQ hr k k).1 _ _ _ _ _ h)
theorem ysX5_ranksOnAir : ra_YV yX5_ranksOnAir cX5_ranksOnAir 5 (some .int) 2 RX5 := ⟨⟨wd_1, wd_566, by decide, by decide, by decide⟩, wd_565, wp_18⟩
/-- TrunkRadio.look -/
def fX5_look (k : Nat) : Nat → Nat → Int32 → Int32 → Int32 → Int32 → Int32 → Int32 → ra_W → Option (Int32 × ra_W)
  | 0, _, _, _, _, _, _, _, _ => none
  | n + 1, L, v1, v2, v3, v4, v5, v6, w => match L with
    | 0 => ra_bind (FX2_has k 3 v1 w) (fun r1 w2 => if r1 = 0 then (some ((-1), w2)) else (ra_bind (FX5_ranksThatFit k v1 w2) (fun r5 w6 => ra_bind (FJ6_bitCount_0f7a4 k r5 w6) (fun r8 w9 => if 1 < r8 then (fX5_look k n 1 0 r5 r8 (-9) 5 1 w9) else (some ((-9), w9))))))
    | 1 => if 20 < v6 then (some (v4, w)) else (ra_bind (FX5_ranksOnAir k v2 v6 w) (fun r2 w3 => if v5 ≤ (if r2 < (v3 - r2) then (v3 - r2) else r2) then (fX5_look k n 2 0 v2 v3 v4 v5 v6 w3) else (fX5_look k n 2 0 v2 v3 v6 (if r2 < (v3 - r2) then (v3 - r2) else r2) v6 w3)))
    | _ => fX5_look k n 1 0 v2 v3 v4 v5 (v6 + 1) w
theorem fX5_look_0 (k : Nat) (n : Nat) (v1 : Int32) (v2 : Int32) (v3 : Int32) (v4 : Int32) (v5 : Int32) (v6 : Int32) (w : ra_W) : fX5_look k (n + 1) 0 v1 v2 v3 v4 v5 v6 w = (ra_bind (FX2_has k 3 v1 w) (fun r1 w2 => if r1 = 0 then (some ((-1), w2)) else (ra_bind (FX5_ranksThatFit k v1 w2) (fun r5 w6 => ra_bind (FJ6_bitCount_0f7a4 k r5 w6) (fun r8 w9 => if 1 < r8 then (fX5_look k n 1 0 r5 r8 (-9) 5 1 w9) else (some ((-9), w9))))))) := rfl
theorem fX5_look_1 (k : Nat) (n : Nat) (v1 : Int32) (v2 : Int32) (v3 : Int32) (v4 : Int32) (v5 : Int32) (v6 : Int32) (w : ra_W) : fX5_look k (n + 1) 1 v1 v2 v3 v4 v5 v6 w = (if 20 < v6 then (some (v4, w)) else (ra_bind (FX5_ranksOnAir k v2 v6 w) (fun r2 w3 => if v5 ≤ (if r2 < (v3 - r2) then (v3 - r2) else r2) then (fX5_look k n 2 0 v2 v3 v4 v5 v6 w3) else (fX5_look k n 2 0 v2 v3 v6 (if r2 < (v3 - r2) then (v3 - r2) else r2) v6 w3)))) := rfl
theorem fX5_look_2 (k : Nat) (n : Nat) (v1 : Int32) (v2 : Int32) (v3 : Int32) (v4 : Int32) (v5 : Int32) (v6 : Int32) (w : ra_W) : fX5_look k (n + 1) 2 v1 v2 v3 v4 v5 v6 w = (fX5_look k n 1 0 v2 v3 v4 v5 (v6 + 1) w) := rfl
def FX5_look (k : Nat) (v1 : Int32) (w : ra_W) : Option (Int32 × ra_W) := fX5_look k k 0 v1 0 0 0 0 0 w
def pX5_look_0 (Z : ra_Z) (r : Int32) (w1 : ra_W) (k : Nat) (n : Nat) : Prop := ∀ (v1 : Int32) (v2 : Int32) (v3 : Int32) (v4 : Int32) (v5 : Int32) (v6 : Int32) (w : ra_W), fX5_look k n 0 v1 v2 v3 v4 v5 v6 w = some (r, w1) → ra_J Z 9 0 [(0, .ref ((zG Z).1 0)), (1, .int v1)] [] w
def pX5_look_1 (Z : ra_Z) (r : Int32) (w1 : ra_W) (k : Nat) (n : Nat) : Prop := ∀ (v1 : Int32) (v2 : Int32) (v3 : Int32) (v4 : Int32) (v5 : Int32) (v6 : Int32) (w : ra_W), fX5_look k n 1 v1 v2 v3 v4 v5 v6 w = some (r, w1) → ra_J Z 9 42 [(0, .ref ((zG Z).1 0)), (2, .int v2), (3, .int v3), (4, .int v4), (5, .int v5), (6, .int v6)] [] w
def pX5_look_2 (Z : ra_Z) (r : Int32) (w1 : ra_W) (k : Nat) (n : Nat) : Prop := ∀ (v1 : Int32) (v2 : Int32) (v3 : Int32) (v4 : Int32) (v5 : Int32) (v6 : Int32) (w : ra_W), fX5_look k n 2 v1 v2 v3 v4 v5 v6 w = some (r, w1) → ra_J Z 9 84 [(0, .ref ((zG Z).1 0)), (2, .int v2), (3, .int v3), (4, .int v4), (5, .int v5), (6, .int v6)] [] w
set_option maxHeartbeats 4000000 in
theorem tX5_look_0 {Z : ra_Z} {r : Int32} {w1 : ra_W} (C : ra_C Z cX5_look 9 RX5 7 163) (hQ : ra_QI Z r w1) (hr : (zmt Z).sig.returnType = (some .int)) (k : Nat) (n : Nat) (ih1 : pX5_look_1 Z r w1 k n) : pX5_look_0 Z r w1 k (n + 1) := by
  intro v1 v2 v3 v4 v5 v6 w hf
  rw [fX5_look_0] at hf
  refine rg_aload_n (pc := 0) C 0 rfl rfl dX5_look_0 ?_
  refine rg_get (pc := 1) C 0 5 1 kd_0 (by decide) rfl inlX5 (by decide) wd_202 rfl dX5_look_1 ?_
  refine rg_iload_n (pc := 4) C 1 rfl rfl dX5_look_4 ?_
  obtain ⟨r1, w2, e3, hf⟩ := ra_bd hf
  refine rg_callVI (pc := 5) (As := [.int v1]) (st := []) C (kX2_has (zl Z) (zG Z) C.hj k 3 ra_N3 _ _ _ _ e3) kd_3 (by decide) rfl ysX2_has rfl wd_425 ⟨Nat.le_of_ble_eq_true rfl, Nat.le_of_ble_eq_true rfl⟩ rfl (Nat.le_of_ble_eq_true rfl) dX5_look_5 ?_
  refine rg_if_ne (pc := 8) (tgt := 13) C dX5_look_8 (by decide) (fun c4 => ?_) (fun c4 => ?_)
  · replace hf := ra_f hf c4
    refine rg_aload_n (pc := 13) C 0 rfl rfl dX5_look_13 ?_
    refine rg_iload_n (pc := 14) C 1 rfl rfl dX5_look_14 ?_
    obtain ⟨r5, w6, e7, hf⟩ := ra_bd hf
    refine rg_callVI (pc := 15) (As := [.int v1]) (st := []) C (kX5_ranksThatFit (zl Z) (zG Z) C.hj k _ _ _ _ e7) kd_0 (by decide) rfl ysX5_ranksThatFit rfl wd_547 ⟨Nat.le_of_ble_eq_true rfl, Nat.le_of_ble_eq_true rfl⟩ rfl (Nat.le_of_ble_eq_true rfl) dX5_look_15 ?_
    refine rg_istore_n (pc := 18) (lv' := [(0, .ref ((zG Z).1 0)), (1, .int v1), (2, .int r5)]) C [1, 2, 0] rfl rfl (by decide) dX5_look_18 ?_
    refine rg_iload_n (pc := 19) C 2 rfl rfl dX5_look_19 ?_
    obtain ⟨r8, w9, e10, hf⟩ := ra_bd hf
    refine rg_callSI (pc := 20) (As := [.int r5]) (st := []) C (kJ6_bitCount_0f7a4 (zl Z) (zG Z) C.hj k _ _ _ _ e10) ysJ6_bitCount_0f7a4 rfl wd_519 ⟨Nat.le_of_ble_eq_true rfl, Nat.le_of_ble_eq_true rfl⟩ rfl (Nat.le_of_ble_eq_true rfl) dX5_look_20 ?_
    refine rg_istore_n (pc := 23) (lv' := [(0, .ref ((zG Z).1 0)), (1, .int v1), (2, .int r5), (3, .int r8)]) C [1, 2, 3, 0] rfl rfl (by decide) dX5_look_23 ?_
    refine rg_iload_n (pc := 24) C 3 rfl rfl dX5_look_24 ?_
    refine rg_iconst (pc := 25) (v := 1) C dX5_look_25 (by decide) ?_
    refine rg_icmp_gt (pc := 26) (tgt := 32) C dX5_look_26 (by decide) (fun c11 => ?_) (fun c11 => ?_)
    · replace hf := ra_t hf c11
      refine rg_bipush (pc := 32) (v := (-9)) C dX5_look_32 (by decide) ?_
      refine rg_istore (pc := 34) (lv' := [(0, .ref ((zG Z).1 0)), (1, .int v1), (2, .int r5), (3, .int r8), (4, .int (-9))]) C [1, 2, 3, 4, 0] rfl (by decide) dX5_look_34 ?_
      refine rg_iconst (pc := 36) (v := 5) C dX5_look_36 (by decide) ?_
      refine rg_istore (pc := 37) (lv' := [(0, .ref ((zG Z).1 0)), (1, .int v1), (2, .int r5), (3, .int r8), (4, .int (-9)), (5, .int 5)]) C [1, 2, 3, 4, 5, 0] rfl (by decide) dX5_look_37 ?_
      refine rg_iconst (pc := 39) (v := 1) C dX5_look_39 (by decide) ?_
      refine rg_istore (pc := 40) (lv' := [(0, .ref ((zG Z).1 0)), (1, .int v1), (2, .int r5), (3, .int r8), (4, .int (-9)), (5, .int 5), (6, .int 1)]) C [1, 2, 3, 4, 5, 6, 0] rfl (by decide) dX5_look_40 ?_
      refine rg_sub [0, 2, 3, 4, 5, 6] rfl ?_
      exact ih1 _ _ _ _ _ _ _ hf
    · replace hf := ra_f hf c11
      refine rg_bipush (pc := 29) (v := (-9)) C dX5_look_29 (by decide) ?_
      exact rg_iret (pc := 31) C hQ hr hf dX5_look_31
  · replace hf := ra_t hf c4
    refine rg_iconst (pc := 11) (v := (-1)) C dX5_look_11 (by decide) ?_
    exact rg_iret (pc := 12) C hQ hr hf dX5_look_12
set_option maxHeartbeats 4000000 in
theorem tX5_look_1 {Z : ra_Z} {r : Int32} {w1 : ra_W} (C : ra_C Z cX5_look 9 RX5 7 163) (hQ : ra_QI Z r w1) (hr : (zmt Z).sig.returnType = (some .int)) (k : Nat) (n : Nat) (ih2 : pX5_look_2 Z r w1 k n) : pX5_look_1 Z r w1 k (n + 1) := by
  intro v1 v2 v3 v4 v5 v6 w hf
  rw [fX5_look_1] at hf
  refine rg_iload (pc := 42) C 5 rfl dX5_look_42 ?_
  refine rg_bipush (pc := 44) (v := 20) C dX5_look_44 (by decide) ?_
  refine rg_icmp_gt (pc := 46) (tgt := 90) C dX5_look_46 (by decide) (fun c1 => ?_) (fun c1 => ?_)
  · replace hf := ra_t hf c1
    refine rg_iload (pc := 90) C 3 rfl dX5_look_90 ?_
    exact rg_iret (pc := 92) C hQ hr hf dX5_look_92
  · replace hf := ra_f hf c1
    refine rg_aload_n (pc := 49) C 0 rfl rfl dX5_look_49 ?_
    refine rg_iload_n (pc := 50) C 1 rfl rfl dX5_look_50 ?_
    refine rg_iload (pc := 51) C 5 rfl dX5_look_51 ?_
    obtain ⟨r2, w3, e4, hf⟩ := ra_bd hf
    refine rg_callVI (pc := 53) (As := [.int v2, .int v6]) (st := []) C (kX5_ranksOnAir (zl Z) (zG Z) C.hj k _ _ _ _ _ e4) kd_0 (by decide) rfl ysX5_ranksOnAir rfl wd_563 ⟨Nat.le_of_ble_eq_true rfl, Nat.le_of_ble_eq_true rfl⟩ rfl (Nat.le_of_ble_eq_true rfl) dX5_look_53 ?_
    refine rg_istore (pc := 56) (lv' := [(0, .ref ((zG Z).1 0)), (2, .int v2), (3, .int v3), (4, .int v4), (5, .int v5), (6, .int v6), (7, .int r2)]) C [1, 2, 3, 4, 5, 6, 0] rfl (by decide) dX5_look_56 ?_
    refine rg_iload (pc := 58) C 6 rfl dX5_look_58 ?_
    refine rg_iload_n (pc := 60) C 2 rfl rfl dX5_look_60 ?_
    refine rg_iload (pc := 61) C 6 rfl dX5_look_61 ?_
    refine rg_isub (pc := 63) C dX5_look_63 ?_
    refine rg_max (pc := 64) C wd_506 wd_376 wd_8 wd_377 (by decide) (Nat.le_of_ble_eq_true rfl) dX5_look_64 ?_
    refine rg_istore (pc := 67) (lv' := [(0, .ref ((zG Z).1 0)), (2, .int v2), (3, .int v3), (4, .int v4), (5, .int v5), (6, .int v6), (7, .int r2), (8, .int (if r2 < (v3 - r2) then (v3 - r2) else r2))]) C [1, 2, 3, 4, 5, 6, 7, 0] rfl (by decide) dX5_look_67 ?_
    refine rg_iload (pc := 69) C 7 rfl dX5_look_69 ?_
    refine rg_iload (pc := 71) C 4 rfl dX5_look_71 ?_
    refine rg_icmp_ge (pc := 73) (tgt := 84) C dX5_look_73 (by decide) (fun c5 => ?_) (fun c5 => ?_)
    · replace hf := ra_t hf c5
      refine rg_sub [0, 1, 2, 3, 4, 5] rfl ?_
      exact ih2 _ _ _ _ _ _ _ hf
    · replace hf := ra_f hf c5
      refine rg_iload (pc := 76) C 7 rfl dX5_look_76 ?_
      refine rg_istore (pc := 78) (lv' := [(0, .ref ((zG Z).1 0)), (2, .int v2), (3, .int v3), (4, .int v4), (5, .int (if r2 < (v3 - r2) then (v3 - r2) else r2)), (6, .int v6), (7, .int r2), (8, .int (if r2 < (v3 - r2) then (v3 - r2) else r2))]) C [1, 2, 3, 4, 0, 5, 6, 7] rfl (by decide) dX5_look_78 ?_
      refine rg_iload (pc := 80) C 5 rfl dX5_look_80 ?_
      refine rg_istore (pc := 82) (lv' := [(0, .ref ((zG Z).1 0)), (2, .int v2), (3, .int v3), (4, .int v6), (5, .int (if r2 < (v3 - r2) then (v3 - r2) else r2)), (6, .int v6), (7, .int r2), (8, .int (if r2 < (v3 - r2) then (v3 - r2) else r2))]) C [1, 2, 3, 0, 4, 5, 6, 7] rfl (by decide) dX5_look_82 ?_
      refine rg_sub [0, 1, 2, 3, 4, 5] rfl ?_
      exact ih2 _ _ _ _ _ _ _ hf
set_option maxHeartbeats 4000000 in
theorem tX5_look_2 {Z : ra_Z} {r : Int32} {w1 : ra_W} (C : ra_C Z cX5_look 9 RX5 7 163) (hQ : ra_QI Z r w1) (hr : (zmt Z).sig.returnType = (some .int)) (k : Nat) (n : Nat) (ih1 : pX5_look_1 Z r w1 k n) : pX5_look_2 Z r w1 k (n + 1) := by
  intro v1 v2 v3 v4 v5 v6 w hf
  rw [fX5_look_2] at hf
  refine rg_iinc (pc := 84) (v := (v6 + 1)) (lv' := [(0, .ref ((zG Z).1 0)), (2, .int v2), (3, .int v3), (4, .int v4), (5, .int v5), (6, .int (v6 + 1))]) C 5 rfl [1, 2, 3, 4, 5, 0] (ra_ii (by decide)) rfl (by decide) dX5_look_84 ?_
  refine rg_goto (pc := 87) (tgt := 42) C dX5_look_87 (by decide) ?_
  exact ih1 _ _ _ _ _ _ _ hf
theorem tX5_look {Z : ra_Z} {r : Int32} {w1 : ra_W} (C : ra_C Z cX5_look 9 RX5 7 163) (hQ : ra_QI Z r w1) (hr : (zmt Z).sig.returnType = (some .int)) (k : Nat) : ∀ n : Nat, pX5_look_0 Z r w1 k n ∧ pX5_look_1 Z r w1 k n ∧ pX5_look_2 Z r w1 k n := by
  intro n
  induction n with
  | zero => exact ⟨(fun _ _ _ _ _ _ _ h => by cases h), (fun _ _ _ _ _ _ _ h => by cases h), (fun _ _ _ _ _ _ _ h => by cases h)⟩
  | succ n ih =>
    obtain ⟨ih0, ih1, ih2⟩ := ih
    exact ⟨tX5_look_0 C hQ hr k n ih1, tX5_look_1 C hQ hr k n ih2, tX5_look_2 C hQ hr k n ih1⟩
theorem kX5_look (l : Launch) (G : ra_G) (hj : ra_inj G) (k : Nat) (v1 : Int32) (w : ra_W) (r : Int32) (w1 : ra_W) (h : FX5_look k v1 w = some (r, w1)) : ra_MI l G yX5_look cX5_look 9 (some .int) 7 163 [.ref (G.1 0), .int v1] w r w1 :=
  ra_entryI (own := RX5) (by decide) rfl (Nat.le_of_ble_eq_true rfl) hj (fun Z hl hG C hQ hr => by subst hl; subst hG; exact (tX5_look C hQ hr k k).1 _ _ _ _ _ _ _ h)
theorem ysX5_look : ra_YV yX5_look cX5_look 9 (some .int) 1 RX5 := ⟨⟨wd_1, wd_562, by decide, by decide, by decide⟩, wd_560, wd_561⟩
/-- TrunkRadio.keep -/
def fX5_keep (k : Nat) : Nat → Nat → Int32 → ra_W → Option (Int32 × ra_W)
  | 0, _, _, _ => none
  | n + 1, L, v1, w => match L with
    | _ => if v1 < 0 then (some ((-1), w)) else (if v1 < 2 then (if ra_in v1 2 then ra_bind (FX4_copy k (ra_rs 32 (ra_ix v1)) 16 w) (fun _ w5 => some (((ra_st w5 0 8 ((w5 0 8) ||| (1 <<< (v1 &&& 31)))) 16 6), (ra_st w5 0 8 ((w5 0 8) ||| (1 <<< (v1 &&& 31)))))) else none) else (some ((-1), w)))
theorem fX5_keep_0 (k : Nat) (n : Nat) (v1 : Int32) (w : ra_W) : fX5_keep k (n + 1) 0 v1 w = (if v1 < 0 then (some ((-1), w)) else (if v1 < 2 then (if ra_in v1 2 then ra_bind (FX4_copy k (ra_rs 32 (ra_ix v1)) 16 w) (fun _ w5 => some (((ra_st w5 0 8 ((w5 0 8) ||| (1 <<< (v1 &&& 31)))) 16 6), (ra_st w5 0 8 ((w5 0 8) ||| (1 <<< (v1 &&& 31)))))) else none) else (some ((-1), w)))) := rfl
def FX5_keep (k : Nat) (v1 : Int32) (w : ra_W) : Option (Int32 × ra_W) := fX5_keep k k 0 v1 w
def pX5_keep_0 (Z : ra_Z) (r : Int32) (w1 : ra_W) (k : Nat) (n : Nat) : Prop := ∀ (v1 : Int32) (w : ra_W), fX5_keep k n 0 v1 w = some (r, w1) → ra_J Z 2 0 [(0, .ref ((zG Z).1 0)), (1, .int v1)] [] w
set_option maxHeartbeats 4000000 in
theorem tX5_keep_0 {Z : ra_Z} {r : Int32} {w1 : ra_W} (C : ra_C Z cX5_keep 2 RX5 2 51) (hQ : ra_QI Z r w1) (hr : (zmt Z).sig.returnType = (some .int)) (k : Nat) (n : Nat) : pX5_keep_0 Z r w1 k (n + 1) := by
  intro v1 w hf
  rw [fX5_keep_0] at hf
  refine rg_iload_n (pc := 0) C 1 rfl rfl dX5_keep_0 ?_
  refine rg_if_lt (pc := 1) (tgt := 9) C dX5_keep_1 (by decide) (fun c1 => ?_) (fun c1 => ?_)
  · replace hf := ra_t hf c1
    refine rg_iconst (pc := 9) (v := (-1)) C dX5_keep_9 (by decide) ?_
    exact rg_iret (pc := 10) C hQ hr hf dX5_keep_10
  · replace hf := ra_f hf c1
    refine rg_iload_n (pc := 4) C 1 rfl rfl dX5_keep_4 ?_
    refine rg_iconst (pc := 5) (v := 2) C dX5_keep_5 (by decide) ?_
    refine rg_icmp_lt (pc := 6) (tgt := 11) C dX5_keep_6 (by decide) (fun c2 => ?_) (fun c2 => ?_)
    · replace hf := ra_t hf c2
      refine rg_aload_n (pc := 11) C 0 rfl rfl dX5_keep_11 ?_
      refine rg_get (pc := 12) C 0 5 7 kd_0 (by decide) rfl inlX5 (by decide) wd_208 rfl dX5_keep_12 ?_
      refine rg_iload_n (pc := 15) C 1 rfl rfl dX5_keep_15 ?_
      obtain ⟨g3, hf⟩ := ra_gd hf
      refine rg_aald (pc := 16) C 32 kd_32 g3 dX5_keep_16 ?_
      refine rg_aload_n (pc := 17) C 0 rfl rfl dX5_keep_17 ?_
      refine rg_get (pc := 18) C 0 5 4 kd_0 (by decide) rfl inlX5 (by decide) wd_205 rfl dX5_keep_18 ?_
      obtain ⟨r4, w5, e6, hf⟩ := ra_bd hf
      refine rg_callVV (pc := 21) (As := [.ref ((zG Z).1 16)]) (st := []) C (kX4_copy (zl Z) (zG Z) C.hj k (ra_rs 32 (ra_ix v1)) 16 (ra_S32 g3) ra_S16 _ _ _ e6) ((ra_S32 g3).1) (by decide) rfl ysX4_copy rfl wd_484 ⟨Nat.le_of_ble_eq_true rfl, Nat.le_of_ble_eq_true rfl⟩ rfl (Nat.le_of_ble_eq_true rfl) dX5_keep_21 ?_
      refine rg_aload_n (pc := 24) C 0 rfl rfl dX5_keep_24 ?_
      refine rg_dup (pc := 25) C rfl dX5_keep_25 ?_
      refine rg_get (pc := 26) C 0 5 8 kd_0 (by decide) rfl inlX5 (by decide) wd_209 rfl dX5_keep_26 ?_
      refine rg_iconst (pc := 29) (v := 1) C dX5_keep_29 (by decide) ?_
      refine rg_iload_n (pc := 30) C 1 rfl rfl dX5_keep_30 ?_
      refine rg_ishl (pc := 31) C dX5_keep_31 ?_
      refine rg_ior (pc := 32) C dX5_keep_32 ?_
      refine rg_put (pc := 33) C 0 5 8 kd_0 (by decide) rfl inlX5 tyX5 tyX5_ok nmX5 (by decide) wd_209 rfl rfl rfl (Nat.le_of_ble_eq_true rfl) rfl dX5_keep_33 ?_
      refine rg_aload_n (pc := 36) C 0 rfl rfl dX5_keep_36 ?_
      refine rg_get (pc := 37) C 0 5 4 kd_0 (by decide) rfl inlX5 (by decide) wd_205 rfl dX5_keep_37 ?_
      refine rg_get (pc := 40) C 16 4 6 kd_16 (by decide) rfl inlX4 (by decide) wd_150 rfl dX5_keep_40 ?_
      exact rg_iret (pc := 43) C hQ hr hf dX5_keep_43
    · replace hf := ra_f hf c2
      refine rg_iconst (pc := 9) (v := (-1)) C dX5_keep_9 (by decide) ?_
      exact rg_iret (pc := 10) C hQ hr hf dX5_keep_10
theorem tX5_keep {Z : ra_Z} {r : Int32} {w1 : ra_W} (C : ra_C Z cX5_keep 2 RX5 2 51) (hQ : ra_QI Z r w1) (hr : (zmt Z).sig.returnType = (some .int)) (k : Nat) : ∀ n : Nat, pX5_keep_0 Z r w1 k n := by
  intro n
  induction n with
  | zero => exact (fun _ _ h => by cases h)
  | succ n ih => exact tX5_keep_0 C hQ hr k n
theorem kX5_keep (l : Launch) (G : ra_G) (hj : ra_inj G) (k : Nat) (v1 : Int32) (w : ra_W) (r : Int32) (w1 : ra_W) (h : FX5_keep k v1 w = some (r, w1)) : ra_MI l G yX5_keep cX5_keep 2 (some .int) 2 51 [.ref (G.1 0), .int v1] w r w1 :=
  ra_entryI (own := RX5) (by decide) rfl (Nat.le_of_ble_eq_true rfl) hj (fun Z hl hG C hQ hr => by subst hl; subst hG; exact (tX5_keep C hQ hr k k) _ _ h)
theorem ysX5_keep : ra_YV yX5_keep cX5_keep 2 (some .int) 1 RX5 := ⟨⟨wd_1, wd_570, by decide, by decide, by decide⟩, wd_568, wd_569⟩
/-- TrunkRadio.back -/
def fX5_back (k : Nat) : Nat → Nat → Int32 → ra_W → Option (Int32 × ra_W)
  | 0, _, _, _ => none
  | n + 1, L, v1, w => match L with
    | _ => if v1 < 0 then (some ((-1), w)) else (if v1 < 2 then (if (((w 0 8) >>> (v1 &&& 31)) &&& 1) = 0 then (some ((-2), w)) else (if ra_in v1 2 then ra_bind (FX4_copy k 16 (ra_rs 32 (ra_ix v1)) w) (fun _ w6 => ra_bind (FX1_lose k w6) (fun _ w9 => some ((w9 16 6), w9))) else none)) else (some ((-1), w)))
theorem fX5_back_0 (k : Nat) (n : Nat) (v1 : Int32) (w : ra_W) : fX5_back k (n + 1) 0 v1 w = (if v1 < 0 then (some ((-1), w)) else (if v1 < 2 then (if (((w 0 8) >>> (v1 &&& 31)) &&& 1) = 0 then (some ((-2), w)) else (if ra_in v1 2 then ra_bind (FX4_copy k 16 (ra_rs 32 (ra_ix v1)) w) (fun _ w6 => ra_bind (FX1_lose k w6) (fun _ w9 => some ((w9 16 6), w9))) else none)) else (some ((-1), w)))) := rfl
def FX5_back (k : Nat) (v1 : Int32) (w : ra_W) : Option (Int32 × ra_W) := fX5_back k k 0 v1 w
def pX5_back_0 (Z : ra_Z) (r : Int32) (w1 : ra_W) (k : Nat) (n : Nat) : Prop := ∀ (v1 : Int32) (w : ra_W), fX5_back k n 0 v1 w = some (r, w1) → ra_J Z 2 0 [(0, .ref ((zG Z).1 0)), (1, .int v1)] [] w
set_option maxHeartbeats 4000000 in
theorem tX5_back_0 {Z : ra_Z} {r : Int32} {w1 : ra_W} (C : ra_C Z cX5_back 2 RX5 2 51) (hQ : ra_QI Z r w1) (hr : (zmt Z).sig.returnType = (some .int)) (k : Nat) (n : Nat) : pX5_back_0 Z r w1 k (n + 1) := by
  intro v1 w hf
  rw [fX5_back_0] at hf
  refine rg_iload_n (pc := 0) C 1 rfl rfl dX5_back_0 ?_
  refine rg_if_lt (pc := 1) (tgt := 9) C dX5_back_1 (by decide) (fun c1 => ?_) (fun c1 => ?_)
  · replace hf := ra_t hf c1
    refine rg_iconst (pc := 9) (v := (-1)) C dX5_back_9 (by decide) ?_
    exact rg_iret (pc := 10) C hQ hr hf dX5_back_10
  · replace hf := ra_f hf c1
    refine rg_iload_n (pc := 4) C 1 rfl rfl dX5_back_4 ?_
    refine rg_iconst (pc := 5) (v := 2) C dX5_back_5 (by decide) ?_
    refine rg_icmp_lt (pc := 6) (tgt := 11) C dX5_back_6 (by decide) (fun c2 => ?_) (fun c2 => ?_)
    · replace hf := ra_t hf c2
      refine rg_aload_n (pc := 11) C 0 rfl rfl dX5_back_11 ?_
      refine rg_get (pc := 12) C 0 5 8 kd_0 (by decide) rfl inlX5 (by decide) wd_209 rfl dX5_back_12 ?_
      refine rg_iload_n (pc := 15) C 1 rfl rfl dX5_back_15 ?_
      refine rg_ishr (pc := 16) C dX5_back_16 ?_
      refine rg_iconst (pc := 17) (v := 1) C dX5_back_17 (by decide) ?_
      refine rg_iand (pc := 18) C dX5_back_18 ?_
      refine rg_if_ne (pc := 19) (tgt := 25) C dX5_back_19 (by decide) (fun c3 => ?_) (fun c3 => ?_)
      · replace hf := ra_f hf c3
        refine rg_aload_n (pc := 25) C 0 rfl rfl dX5_back_25 ?_
        refine rg_get (pc := 26) C 0 5 4 kd_0 (by decide) rfl inlX5 (by decide) wd_205 rfl dX5_back_26 ?_
        refine rg_aload_n (pc := 29) C 0 rfl rfl dX5_back_29 ?_
        refine rg_get (pc := 30) C 0 5 7 kd_0 (by decide) rfl inlX5 (by decide) wd_208 rfl dX5_back_30 ?_
        refine rg_iload_n (pc := 33) C 1 rfl rfl dX5_back_33 ?_
        obtain ⟨g4, hf⟩ := ra_gd hf
        refine rg_aald (pc := 34) C 32 kd_32 g4 dX5_back_34 ?_
        obtain ⟨r5, w6, e7, hf⟩ := ra_bd hf
        refine rg_callVV (pc := 35) (As := [.ref ((zG Z).1 (ra_rs 32 (ra_ix v1)))]) (st := []) C (kX4_copy (zl Z) (zG Z) C.hj k 16 (ra_rs 32 (ra_ix v1)) ra_S16 (ra_S32 g4) _ _ _ e7) kd_16 (by decide) rfl ysX4_copy rfl wd_484 ⟨Nat.le_of_ble_eq_true rfl, Nat.le_of_ble_eq_true rfl⟩ rfl (Nat.le_of_ble_eq_true rfl) dX5_back_35 ?_
        refine rg_aload_n (pc := 38) C 0 rfl rfl dX5_back_38 ?_
        refine rg_get (pc := 39) C 0 5 6 kd_0 (by decide) rfl inlX5 (by decide) wd_207 rfl dX5_back_39 ?_
        obtain ⟨r8, w9, e10, hf⟩ := ra_bd hf
        refine rg_callVV (pc := 42) (As := []) (st := []) C (kX1_lose (zl Z) (zG Z) C.hj k _ _ _ e10) kd_30 (by decide) rfl ysX1_lose rfl wd_331 ⟨Nat.le_of_ble_eq_true rfl, Nat.le_of_ble_eq_true rfl⟩ rfl (Nat.le_of_ble_eq_true rfl) dX5_back_42 ?_
        refine rg_aload_n (pc := 45) C 0 rfl rfl dX5_back_45 ?_
        refine rg_get (pc := 46) C 0 5 4 kd_0 (by decide) rfl inlX5 (by decide) wd_205 rfl dX5_back_46 ?_
        refine rg_get (pc := 49) C 16 4 6 kd_16 (by decide) rfl inlX4 (by decide) wd_150 rfl dX5_back_49 ?_
        exact rg_iret (pc := 52) C hQ hr hf dX5_back_52
      · replace hf := ra_t hf c3
        refine rg_bipush (pc := 22) (v := (-2)) C dX5_back_22 (by decide) ?_
        exact rg_iret (pc := 24) C hQ hr hf dX5_back_24
    · replace hf := ra_f hf c2
      refine rg_iconst (pc := 9) (v := (-1)) C dX5_back_9 (by decide) ?_
      exact rg_iret (pc := 10) C hQ hr hf dX5_back_10
theorem tX5_back {Z : ra_Z} {r : Int32} {w1 : ra_W} (C : ra_C Z cX5_back 2 RX5 2 51) (hQ : ra_QI Z r w1) (hr : (zmt Z).sig.returnType = (some .int)) (k : Nat) : ∀ n : Nat, pX5_back_0 Z r w1 k n := by
  intro n
  induction n with
  | zero => exact (fun _ _ h => by cases h)
  | succ n ih => exact tX5_back_0 C hQ hr k n
theorem kX5_back (l : Launch) (G : ra_G) (hj : ra_inj G) (k : Nat) (v1 : Int32) (w : ra_W) (r : Int32) (w1 : ra_W) (h : FX5_back k v1 w = some (r, w1)) : ra_MI l G yX5_back cX5_back 2 (some .int) 2 51 [.ref (G.1 0), .int v1] w r w1 :=
  ra_entryI (own := RX5) (by decide) rfl (Nat.le_of_ble_eq_true rfl) hj (fun Z hl hG C hQ hr => by subst hl; subst hG; exact (tX5_back C hQ hr k k) _ _ h)
theorem ysX5_back : ra_YV yX5_back cX5_back 2 (some .int) 1 RX5 := ⟨⟨wd_1, wd_574, by decide, by decide, by decide⟩, wd_572, wd_573⟩
/-- TrunkRadio.count -/
def fX5_count (k : Nat) : Nat → Nat → Int32 → ra_W → Option (Int32 × ra_W)
  | 0, _, _, _ => none
  | n + 1, L, v1, w => match L with
    | _ => if v1 = 0 then (some ((w 3 0), w)) else (if v1 = 1 then (some ((w 3 1), w)) else (if v1 = 2 then (some ((w 3 2), w)) else (if v1 = 3 then (some ((w 16 6), w)) else (if v1 = 4 then (some ((w 16 7), w)) else (if v1 = 5 then (some ((w 16 8), w)) else (if v1 = 6 then (some ((w 16 9), w)) else (if v1 = 7 then (ra_bind (FX0_lineUp k 3 16 w) (fun r9 w10 => some (r9, w10))) else (if v1 = 8 then (some ((w 0 11), w)) else (if v1 = 9 then (some ((w 1 0), w)) else (if v1 = 10 then (some ((w 30 0), w)) else (some ((-1), w))))))))))))
theorem fX5_count_0 (k : Nat) (n : Nat) (v1 : Int32) (w : ra_W) : fX5_count k (n + 1) 0 v1 w = (if v1 = 0 then (some ((w 3 0), w)) else (if v1 = 1 then (some ((w 3 1), w)) else (if v1 = 2 then (some ((w 3 2), w)) else (if v1 = 3 then (some ((w 16 6), w)) else (if v1 = 4 then (some ((w 16 7), w)) else (if v1 = 5 then (some ((w 16 8), w)) else (if v1 = 6 then (some ((w 16 9), w)) else (if v1 = 7 then (ra_bind (FX0_lineUp k 3 16 w) (fun r9 w10 => some (r9, w10))) else (if v1 = 8 then (some ((w 0 11), w)) else (if v1 = 9 then (some ((w 1 0), w)) else (if v1 = 10 then (some ((w 30 0), w)) else (some ((-1), w))))))))))))) := rfl
def FX5_count (k : Nat) (v1 : Int32) (w : ra_W) : Option (Int32 × ra_W) := fX5_count k k 0 v1 w
def pX5_count_0 (Z : ra_Z) (r : Int32) (w1 : ra_W) (k : Nat) (n : Nat) : Prop := ∀ (v1 : Int32) (w : ra_W), fX5_count k n 0 v1 w = some (r, w1) → ra_J Z 2 0 [(0, .ref ((zG Z).1 0)), (1, .int v1)] [] w
set_option maxHeartbeats 4000000 in
theorem tX5_count_0 {Z : ra_Z} {r : Int32} {w1 : ra_W} (C : ra_C Z cX5_count 2 RX5 2 48) (hQ : ra_QI Z r w1) (hr : (zmt Z).sig.returnType = (some .int)) (k : Nat) (n : Nat) : pX5_count_0 Z r w1 k (n + 1) := by
  intro v1 w hf
  rw [fX5_count_0] at hf
  refine rg_iload_n (pc := 0) C 1 rfl rfl dX5_count_0 ?_
  by_cases c1 : v1 = 0
  · replace hf := ra_t hf c1
    refine rg_tableK (pc := 1) (off := 59) (tgt := 60) C 0 c1 dX5_count_1 (by decide) (by decide) (by decide) (by decide) ?_
    refine rg_aload_n (pc := 60) C 0 rfl rfl dX5_count_60 ?_
    refine rg_get (pc := 61) C 0 5 1 kd_0 (by decide) rfl inlX5 (by decide) wd_202 rfl dX5_count_61 ?_
    refine rg_get (pc := 64) C 3 2 0 kd_3 (by decide) rfl inlX2 (by decide) wd_67 rfl dX5_count_64 ?_
    exact rg_iret (pc := 67) C hQ hr hf dX5_count_67
  · replace hf := ra_f hf c1
    by_cases c2 : v1 = 1
    · replace hf := ra_t hf c2
      refine rg_tableK (pc := 1) (off := 67) (tgt := 68) C 1 c2 dX5_count_1 (by decide) (by decide) (by decide) (by decide) ?_
      refine rg_aload_n (pc := 68) C 0 rfl rfl dX5_count_68 ?_
      refine rg_get (pc := 69) C 0 5 1 kd_0 (by decide) rfl inlX5 (by decide) wd_202 rfl dX5_count_69 ?_
      refine rg_get (pc := 72) C 3 2 1 kd_3 (by decide) rfl inlX2 (by decide) wd_73 rfl dX5_count_72 ?_
      exact rg_iret (pc := 75) C hQ hr hf dX5_count_75
    · replace hf := ra_f hf c2
      by_cases c3 : v1 = 2
      · replace hf := ra_t hf c3
        refine rg_tableK (pc := 1) (off := 75) (tgt := 76) C 2 c3 dX5_count_1 (by decide) (by decide) (by decide) (by decide) ?_
        refine rg_aload_n (pc := 76) C 0 rfl rfl dX5_count_76 ?_
        refine rg_get (pc := 77) C 0 5 1 kd_0 (by decide) rfl inlX5 (by decide) wd_202 rfl dX5_count_77 ?_
        refine rg_get (pc := 80) C 3 2 2 kd_3 (by decide) rfl inlX2 (by decide) wd_77 rfl dX5_count_80 ?_
        exact rg_iret (pc := 83) C hQ hr hf dX5_count_83
      · replace hf := ra_f hf c3
        by_cases c4 : v1 = 3
        · replace hf := ra_t hf c4
          refine rg_tableK (pc := 1) (off := 83) (tgt := 84) C 3 c4 dX5_count_1 (by decide) (by decide) (by decide) (by decide) ?_
          refine rg_aload_n (pc := 84) C 0 rfl rfl dX5_count_84 ?_
          refine rg_get (pc := 85) C 0 5 4 kd_0 (by decide) rfl inlX5 (by decide) wd_205 rfl dX5_count_85 ?_
          refine rg_get (pc := 88) C 16 4 6 kd_16 (by decide) rfl inlX4 (by decide) wd_150 rfl dX5_count_88 ?_
          exact rg_iret (pc := 91) C hQ hr hf dX5_count_91
        · replace hf := ra_f hf c4
          by_cases c5 : v1 = 4
          · replace hf := ra_t hf c5
            refine rg_tableK (pc := 1) (off := 91) (tgt := 92) C 4 c5 dX5_count_1 (by decide) (by decide) (by decide) (by decide) ?_
            refine rg_aload_n (pc := 92) C 0 rfl rfl dX5_count_92 ?_
            refine rg_get (pc := 93) C 0 5 4 kd_0 (by decide) rfl inlX5 (by decide) wd_205 rfl dX5_count_93 ?_
            refine rg_get (pc := 96) C 16 4 7 kd_16 (by decide) rfl inlX4 (by decide) wd_153 rfl dX5_count_96 ?_
            exact rg_iret (pc := 99) C hQ hr hf dX5_count_99
          · replace hf := ra_f hf c5
            by_cases c6 : v1 = 5
            · replace hf := ra_t hf c6
              refine rg_tableK (pc := 1) (off := 99) (tgt := 100) C 5 c6 dX5_count_1 (by decide) (by decide) (by decide) (by decide) ?_
              refine rg_aload_n (pc := 100) C 0 rfl rfl dX5_count_100 ?_
              refine rg_get (pc := 101) C 0 5 4 kd_0 (by decide) rfl inlX5 (by decide) wd_205 rfl dX5_count_101 ?_
              refine rg_get (pc := 104) C 16 4 8 kd_16 (by decide) rfl inlX4 (by decide) wd_156 rfl dX5_count_104 ?_
              exact rg_iret (pc := 107) C hQ hr hf dX5_count_107
            · replace hf := ra_f hf c6
              by_cases c7 : v1 = 6
              · replace hf := ra_t hf c7
                refine rg_tableK (pc := 1) (off := 107) (tgt := 108) C 6 c7 dX5_count_1 (by decide) (by decide) (by decide) (by decide) ?_
                refine rg_aload_n (pc := 108) C 0 rfl rfl dX5_count_108 ?_
                refine rg_get (pc := 109) C 0 5 4 kd_0 (by decide) rfl inlX5 (by decide) wd_205 rfl dX5_count_109 ?_
                refine rg_get (pc := 112) C 16 4 9 kd_16 (by decide) rfl inlX4 (by decide) wd_159 rfl dX5_count_112 ?_
                exact rg_iret (pc := 115) C hQ hr hf dX5_count_115
              · replace hf := ra_f hf c7
                by_cases c8 : v1 = 7
                · replace hf := ra_t hf c8
                  refine rg_tableK (pc := 1) (off := 115) (tgt := 116) C 7 c8 dX5_count_1 (by decide) (by decide) (by decide) (by decide) ?_
                  refine rg_aload_n (pc := 116) C 0 rfl rfl dX5_count_116 ?_
                  refine rg_get (pc := 117) C 0 5 3 kd_0 (by decide) rfl inlX5 (by decide) wd_204 rfl dX5_count_117 ?_
                  refine rg_aload_n (pc := 120) C 0 rfl rfl dX5_count_120 ?_
                  refine rg_get (pc := 121) C 0 5 1 kd_0 (by decide) rfl inlX5 (by decide) wd_202 rfl dX5_count_121 ?_
                  refine rg_aload_n (pc := 124) C 0 rfl rfl dX5_count_124 ?_
                  refine rg_get (pc := 125) C 0 5 4 kd_0 (by decide) rfl inlX5 (by decide) wd_205 rfl dX5_count_125 ?_
                  obtain ⟨r9, w10, e11, hf⟩ := ra_bd hf
                  refine rg_callVI (pc := 128) (As := [.ref ((zG Z).1 3), .ref ((zG Z).1 16)]) (st := []) C (kX0_lineUp (zl Z) (zG Z) C.hj k 3 16 ra_N3 ra_S16 _ _ _ e11) kd_13 (by decide) rfl ysX0_lineUp rfl wd_479 ⟨Nat.le_of_ble_eq_true rfl, Nat.le_of_ble_eq_true rfl⟩ rfl (Nat.le_of_ble_eq_true rfl) dX5_count_128 ?_
                  exact rg_iret (pc := 131) C hQ hr hf dX5_count_131
                · replace hf := ra_f hf c8
                  by_cases c12 : v1 = 8
                  · replace hf := ra_t hf c12
                    refine rg_tableK (pc := 1) (off := 131) (tgt := 132) C 8 c12 dX5_count_1 (by decide) (by decide) (by decide) (by decide) ?_
                    refine rg_aload_n (pc := 132) C 0 rfl rfl dX5_count_132 ?_
                    refine rg_get (pc := 133) C 0 5 11 kd_0 (by decide) rfl inlX5 (by decide) wd_212 rfl dX5_count_133 ?_
                    exact rg_iret (pc := 136) C hQ hr hf dX5_count_136
                  · replace hf := ra_f hf c12
                    by_cases c13 : v1 = 9
                    · replace hf := ra_t hf c13
                      refine rg_tableK (pc := 1) (off := 136) (tgt := 137) C 9 c13 dX5_count_1 (by decide) (by decide) (by decide) (by decide) ?_
                      refine rg_aload_n (pc := 137) C 0 rfl rfl dX5_count_137 ?_
                      refine rg_get (pc := 138) C 0 5 0 kd_0 (by decide) rfl inlX5 (by decide) wd_201 rfl dX5_count_138 ?_
                      refine rg_get (pc := 141) C 1 3 0 kd_1 (by decide) rfl inlX3 (by decide) wd_26 rfl dX5_count_141 ?_
                      exact rg_iret (pc := 144) C hQ hr hf dX5_count_144
                    · replace hf := ra_f hf c13
                      by_cases c14 : v1 = 10
                      · replace hf := ra_t hf c14
                        refine rg_tableK (pc := 1) (off := 144) (tgt := 145) C 10 c14 dX5_count_1 (by decide) (by decide) (by decide) (by decide) ?_
                        refine rg_aload_n (pc := 145) C 0 rfl rfl dX5_count_145 ?_
                        refine rg_get (pc := 146) C 0 5 6 kd_0 (by decide) rfl inlX5 (by decide) wd_207 rfl dX5_count_146 ?_
                        refine rg_get (pc := 149) C 30 1 0 kd_30 (by decide) rfl inlX1 (by decide) wd_191 rfl dX5_count_149 ?_
                        exact rg_iret (pc := 152) C hQ hr hf dX5_count_152
                      · replace hf := ra_f hf c14
                        refine rg_tableOut (pc := 1) (tgt := 153) C dX5_count_1 (by have nc1 := lv_neT (a := 0) c1 (by decide); have nc2 := lv_neT (a := 1) c2 (by decide); have nc3 := lv_neT (a := 2) c3 (by decide); have nc4 := lv_neT (a := 3) c4 (by decide); have nc5 := lv_neT (a := 4) c5 (by decide); have nc6 := lv_neT (a := 5) c6 (by decide); have nc7 := lv_neT (a := 6) c7 (by decide); have nc8 := lv_neT (a := 7) c8 (by decide); have nc12 := lv_neT (a := 8) c12 (by decide); have nc13 := lv_neT (a := 9) c13 (by decide); have nc14 := lv_neT (a := 10) c14 (by decide); omega) (by decide) ?_
                        refine rg_iconst (pc := 153) (v := (-1)) C dX5_count_153 (by decide) ?_
                        exact rg_iret (pc := 154) C hQ hr hf dX5_count_154
theorem tX5_count {Z : ra_Z} {r : Int32} {w1 : ra_W} (C : ra_C Z cX5_count 2 RX5 2 48) (hQ : ra_QI Z r w1) (hr : (zmt Z).sig.returnType = (some .int)) (k : Nat) : ∀ n : Nat, pX5_count_0 Z r w1 k n := by
  intro n
  induction n with
  | zero => exact (fun _ _ h => by cases h)
  | succ n ih => exact tX5_count_0 C hQ hr k n
theorem kX5_count (l : Launch) (G : ra_G) (hj : ra_inj G) (k : Nat) (v1 : Int32) (w : ra_W) (r : Int32) (w1 : ra_W) (h : FX5_count k v1 w = some (r, w1)) : ra_MI l G yX5_count cX5_count 2 (some .int) 2 48 [.ref (G.1 0), .int v1] w r w1 :=
  ra_entryI (own := RX5) (by decide) rfl (Nat.le_of_ble_eq_true rfl) hj (fun Z hl hG C hQ hr => by subst hl; subst hG; exact (tX5_count C hQ hr k k) _ _ h)
theorem ysX5_count : ra_YV yX5_count cX5_count 2 (some .int) 1 RX5 := ⟨⟨wd_1, wd_578, by decide, by decide, by decide⟩, wd_576, wd_577⟩
/-- TrunkRadioModel.begins -/
def fX6_begins (k : Nat) : Nat → Nat → Int32 → ra_W → Option (Int32 × ra_W)
  | 0, _, _, _ => none
  | n + 1, L, v1, w => match L with
    | 0 => fX6_begins k n 1 0 w
    | 1 => if 19 ≤ v1 then (fX6_begins k n 2 0 w) else (if ra_in v1 19 then fX6_begins k n 1 (v1 + 1) (ra_st w 137 (ra_ix v1) 0) else none)
    | _ => if 41 ≤ v1 then (some (0, (ra_st (ra_st (ra_st (ra_st (ra_st (ra_st (ra_st w 137 1 4) 137 2 8) 137 3 2) 137 4 2) 138 0 (-1)) 138 1 (-1)) 134 8 0))) else (if ra_in v1 41 then fX6_begins k n 2 (v1 + 1) (ra_st w 138 (ra_ix v1) 0) else none)
theorem fX6_begins_0 (k : Nat) (n : Nat) (v1 : Int32) (w : ra_W) : fX6_begins k (n + 1) 0 v1 w = (fX6_begins k n 1 0 w) := rfl
theorem fX6_begins_1 (k : Nat) (n : Nat) (v1 : Int32) (w : ra_W) : fX6_begins k (n + 1) 1 v1 w = (if 19 ≤ v1 then (fX6_begins k n 2 0 w) else (if ra_in v1 19 then fX6_begins k n 1 (v1 + 1) (ra_st w 137 (ra_ix v1) 0) else none)) := rfl
theorem fX6_begins_2 (k : Nat) (n : Nat) (v1 : Int32) (w : ra_W) : fX6_begins k (n + 1) 2 v1 w = (if 41 ≤ v1 then (some (0, (ra_st (ra_st (ra_st (ra_st (ra_st (ra_st (ra_st w 137 1 4) 137 2 8) 137 3 2) 137 4 2) 138 0 (-1)) 138 1 (-1)) 134 8 0))) else (if ra_in v1 41 then fX6_begins k n 2 (v1 + 1) (ra_st w 138 (ra_ix v1) 0) else none)) := rfl
def FX6_begins (k : Nat)  (w : ra_W) : Option (Int32 × ra_W) := fX6_begins k k 0 0 w
def pX6_begins_0 (Z : ra_Z) (r : Int32) (w1 : ra_W) (k : Nat) (n : Nat) : Prop := ∀ (v1 : Int32) (w : ra_W), fX6_begins k n 0 v1 w = some (r, w1) → ra_J Z 2 0 [(0, .ref ((zG Z).1 134))] [] w
def pX6_begins_1 (Z : ra_Z) (r : Int32) (w1 : ra_W) (k : Nat) (n : Nat) : Prop := ∀ (v1 : Int32) (w : ra_W), fX6_begins k n 1 v1 w = some (r, w1) → ra_J Z 2 2 [(0, .ref ((zG Z).1 134)), (1, .int v1)] [] w
def pX6_begins_2 (Z : ra_Z) (r : Int32) (w1 : ra_W) (k : Nat) (n : Nat) : Prop := ∀ (v1 : Int32) (w : ra_W), fX6_begins k n 2 v1 w = some (r, w1) → ra_J Z 2 23 [(0, .ref ((zG Z).1 134)), (1, .int v1)] [] w
set_option maxHeartbeats 4000000 in
theorem tX6_begins_0 {Z : ra_Z} {r : Int32} {w1 : ra_W} (C : ra_C Z cX6_begins 2 RX6 0 0) (hQ : ra_QV Z r w1) (hr : (zmt Z).sig.returnType = none) (k : Nat) (n : Nat) (ih1 : pX6_begins_1 Z r w1 k n) : pX6_begins_0 Z r w1 k (n + 1) := by
  intro v1 w hf
  rw [fX6_begins_0] at hf
  refine rg_iconst (pc := 0) (v := 0) C dX6_begins_0 (by decide) ?_
  refine rg_istore_n (pc := 1) (lv' := [(0, .ref ((zG Z).1 134)), (1, .int 0)]) C [1, 0] rfl rfl (by decide) dX6_begins_1 ?_
  exact ih1 _ _ hf
set_option maxHeartbeats 4000000 in
theorem tX6_begins_1 {Z : ra_Z} {r : Int32} {w1 : ra_W} (C : ra_C Z cX6_begins 2 RX6 0 0) (hQ : ra_QV Z r w1) (hr : (zmt Z).sig.returnType = none) (k : Nat) (n : Nat) (ih1 : pX6_begins_1 Z r w1 k n) (ih2 : pX6_begins_2 Z r w1 k n) : pX6_begins_1 Z r w1 k (n + 1) := by
  intro v1 w hf
  rw [fX6_begins_1] at hf
  refine rg_iload_n (pc := 2) C 1 rfl rfl dX6_begins_2 ?_
  refine rg_bipush (pc := 3) (v := 19) C dX6_begins_3 (by decide) ?_
  refine rg_icmp_ge (pc := 5) (tgt := 21) C dX6_begins_5 (by decide) (fun c1 => ?_) (fun c1 => ?_)
  · replace hf := ra_t hf c1
    refine rg_iconst (pc := 21) (v := 0) C dX6_begins_21 (by decide) ?_
    refine rg_istore_n (pc := 22) (lv' := [(0, .ref ((zG Z).1 134)), (1, .int 0)]) C [1, 0] rfl rfl (by decide) dX6_begins_22 ?_
    exact ih2 _ _ hf
  · replace hf := ra_f hf c1
    refine rg_aload_n (pc := 8) C 0 rfl rfl dX6_begins_8 ?_
    refine rg_get (pc := 9) C 134 6 10 kd_134 (by decide) rfl inlX6 (by decide) wd_606 rfl dX6_begins_9 ?_
    refine rg_iload_n (pc := 12) C 1 rfl rfl dX6_begins_12 ?_
    refine rg_iconst (pc := 13) (v := 0) C dX6_begins_13 (by decide) ?_
    obtain ⟨g2, hf⟩ := ra_gd hf
    refine rg_iast (pc := 14) (j := (ra_ix v1)) C 137 kd_137 rfl g2 dX6_begins_14 ?_
    refine rg_iinc (pc := 15) (v := (v1 + 1)) (lv' := [(0, .ref ((zG Z).1 134)), (1, .int (v1 + 1))]) C 1 rfl [1, 0] (ra_ii (by decide)) rfl (by decide) dX6_begins_15 ?_
    refine rg_goto (pc := 18) (tgt := 2) C dX6_begins_18 (by decide) ?_
    exact ih1 _ _ hf
set_option maxHeartbeats 4000000 in
theorem tX6_begins_2 {Z : ra_Z} {r : Int32} {w1 : ra_W} (C : ra_C Z cX6_begins 2 RX6 0 0) (hQ : ra_QV Z r w1) (hr : (zmt Z).sig.returnType = none) (k : Nat) (n : Nat) (ih2 : pX6_begins_2 Z r w1 k n) : pX6_begins_2 Z r w1 k (n + 1) := by
  intro v1 w hf
  rw [fX6_begins_2] at hf
  refine rg_iload_n (pc := 23) C 1 rfl rfl dX6_begins_23 ?_
  refine rg_bipush (pc := 24) (v := 41) C dX6_begins_24 (by decide) ?_
  refine rg_icmp_ge (pc := 26) (tgt := 42) C dX6_begins_26 (by decide) (fun c1 => ?_) (fun c1 => ?_)
  · replace hf := ra_t hf c1
    refine rg_aload_n (pc := 42) C 0 rfl rfl dX6_begins_42 ?_
    refine rg_get (pc := 43) C 134 6 10 kd_134 (by decide) rfl inlX6 (by decide) wd_606 rfl dX6_begins_43 ?_
    refine rg_iconst (pc := 46) (v := 1) C dX6_begins_46 (by decide) ?_
    refine rg_iconst (pc := 47) (v := 4) C dX6_begins_47 (by decide) ?_
    refine rg_iast (pc := 48) (j := 1) C 137 kd_137 (by decide) (by decide) dX6_begins_48 ?_
    refine rg_aload_n (pc := 49) C 0 rfl rfl dX6_begins_49 ?_
    refine rg_get (pc := 50) C 134 6 10 kd_134 (by decide) rfl inlX6 (by decide) wd_606 rfl dX6_begins_50 ?_
    refine rg_iconst (pc := 53) (v := 2) C dX6_begins_53 (by decide) ?_
    refine rg_bipush (pc := 54) (v := 8) C dX6_begins_54 (by decide) ?_
    refine rg_iast (pc := 56) (j := 2) C 137 kd_137 (by decide) (by decide) dX6_begins_56 ?_
    refine rg_aload_n (pc := 57) C 0 rfl rfl dX6_begins_57 ?_
    refine rg_get (pc := 58) C 134 6 10 kd_134 (by decide) rfl inlX6 (by decide) wd_606 rfl dX6_begins_58 ?_
    refine rg_iconst (pc := 61) (v := 3) C dX6_begins_61 (by decide) ?_
    refine rg_iconst (pc := 62) (v := 2) C dX6_begins_62 (by decide) ?_
    refine rg_iast (pc := 63) (j := 3) C 137 kd_137 (by decide) (by decide) dX6_begins_63 ?_
    refine rg_aload_n (pc := 64) C 0 rfl rfl dX6_begins_64 ?_
    refine rg_get (pc := 65) C 134 6 10 kd_134 (by decide) rfl inlX6 (by decide) wd_606 rfl dX6_begins_65 ?_
    refine rg_iconst (pc := 68) (v := 4) C dX6_begins_68 (by decide) ?_
    refine rg_iconst (pc := 69) (v := 2) C dX6_begins_69 (by decide) ?_
    refine rg_iast (pc := 70) (j := 4) C 137 kd_137 (by decide) (by decide) dX6_begins_70 ?_
    refine rg_aload_n (pc := 71) C 0 rfl rfl dX6_begins_71 ?_
    refine rg_get (pc := 72) C 134 6 11 kd_134 (by decide) rfl inlX6 (by decide) wd_607 rfl dX6_begins_72 ?_
    refine rg_iconst (pc := 75) (v := 0) C dX6_begins_75 (by decide) ?_
    refine rg_iconst (pc := 76) (v := (-1)) C dX6_begins_76 (by decide) ?_
    refine rg_iast (pc := 77) (j := 0) C 138 kd_138 (by decide) (by decide) dX6_begins_77 ?_
    refine rg_aload_n (pc := 78) C 0 rfl rfl dX6_begins_78 ?_
    refine rg_get (pc := 79) C 134 6 11 kd_134 (by decide) rfl inlX6 (by decide) wd_607 rfl dX6_begins_79 ?_
    refine rg_iconst (pc := 82) (v := 1) C dX6_begins_82 (by decide) ?_
    refine rg_iconst (pc := 83) (v := (-1)) C dX6_begins_83 (by decide) ?_
    refine rg_iast (pc := 84) (j := 1) C 138 kd_138 (by decide) (by decide) dX6_begins_84 ?_
    refine rg_aload_n (pc := 85) C 0 rfl rfl dX6_begins_85 ?_
    refine rg_iconst (pc := 86) (v := 0) C dX6_begins_86 (by decide) ?_
    refine rg_put (pc := 87) C 134 6 8 kd_134 (by decide) rfl inlX6 tyX6 tyX6_ok nmX6 (by decide) wd_604 rfl rfl rfl (Nat.le_of_ble_eq_true rfl) rfl dX6_begins_87 ?_
    exact rg_vret (pc := 90) C hQ hr hf dX6_begins_90
  · replace hf := ra_f hf c1
    refine rg_aload_n (pc := 29) C 0 rfl rfl dX6_begins_29 ?_
    refine rg_get (pc := 30) C 134 6 11 kd_134 (by decide) rfl inlX6 (by decide) wd_607 rfl dX6_begins_30 ?_
    refine rg_iload_n (pc := 33) C 1 rfl rfl dX6_begins_33 ?_
    refine rg_iconst (pc := 34) (v := 0) C dX6_begins_34 (by decide) ?_
    obtain ⟨g2, hf⟩ := ra_gd hf
    refine rg_iast (pc := 35) (j := (ra_ix v1)) C 138 kd_138 rfl g2 dX6_begins_35 ?_
    refine rg_iinc (pc := 36) (v := (v1 + 1)) (lv' := [(0, .ref ((zG Z).1 134)), (1, .int (v1 + 1))]) C 1 rfl [1, 0] (ra_ii (by decide)) rfl (by decide) dX6_begins_36 ?_
    refine rg_goto (pc := 39) (tgt := 23) C dX6_begins_39 (by decide) ?_
    exact ih2 _ _ hf
theorem tX6_begins {Z : ra_Z} {r : Int32} {w1 : ra_W} (C : ra_C Z cX6_begins 2 RX6 0 0) (hQ : ra_QV Z r w1) (hr : (zmt Z).sig.returnType = none) (k : Nat) : ∀ n : Nat, pX6_begins_0 Z r w1 k n ∧ pX6_begins_1 Z r w1 k n ∧ pX6_begins_2 Z r w1 k n := by
  intro n
  induction n with
  | zero => exact ⟨(fun _ _ h => by cases h), (fun _ _ h => by cases h), (fun _ _ h => by cases h)⟩
  | succ n ih =>
    obtain ⟨ih0, ih1, ih2⟩ := ih
    exact ⟨tX6_begins_0 C hQ hr k n ih1, tX6_begins_1 C hQ hr k n ih1 ih2, tX6_begins_2 C hQ hr k n ih2⟩
theorem kX6_begins (l : Launch) (G : ra_G) (hj : ra_inj G) (k : Nat)  (w : ra_W) (r : Int32) (w1 : ra_W) (h : FX6_begins k  w = some (r, w1)) : ra_MV l G yX6_begins cX6_begins 2 none 0 0 [.ref (G.1 134)] w r w1 :=
  ra_entryV (own := RX6) (by decide) rfl (Nat.le_of_ble_eq_true rfl) hj (fun Z hl hG C hQ hr => by subst hl; subst hG; exact (tX6_begins C hQ hr k k).1 _ _ h)
theorem ysX6_begins : ra_YV yX6_begins cX6_begins 2 none 0 RX6 := ⟨⟨wd_7, wd_588, by decide, by decide, by decide⟩, wd_587, wp_19⟩
