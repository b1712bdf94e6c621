/-- TrunkRadio$Air.giveUp -/
def fX0_giveUp (k : Nat) (b0 : Nat) (b1 : Nat) : Nat → Nat → Int32 → ra_W → Option (Int32 × ra_W)
  | 0, _, _, _ => none
  | n + 1, L, v2, w => match L with
    | 0 => fX0_giveUp k b0 b1 n 1 0 w
    | 1 => if (w b0 0) ≤ v2 then (some (0, w)) else (if ra_in v2 7 then if (w (b1 + 2) (ra_ix v2)) = 3 then (if ((ra_st w (b1 + 3) (ra_ix v2) ((w (b1 + 3) (ra_ix v2)) + 1)) (b1 + 3) (ra_ix v2)) ≤ ((ra_st w (b1 + 3) (ra_ix v2) ((w (b1 + 3) (ra_ix v2)) + 1)) b0 2) then (fX0_giveUp k b0 b1 n 2 v2 (ra_st w (b1 + 3) (ra_ix v2) ((w (b1 + 3) (ra_ix v2)) + 1))) else (ra_bind (FX4_rest k b1 v2 (ra_st w (b1 + 3) (ra_ix v2) ((w (b1 + 3) (ra_ix v2)) + 1))) (fun _ w6 => fX0_giveUp k b0 b1 n 2 v2 (ra_st w6 b1 9 ((w6 b1 9) + 1))))) else (fX0_giveUp k b0 b1 n 2 v2 w) else none)
    | _ => fX0_giveUp k b0 b1 n 1 (v2 + 1) w
theorem fX0_giveUp_0 (k : Nat) (b0 : Nat) (b1 : Nat) (n : Nat) (v2 : Int32) (w : ra_W) : fX0_giveUp k b0 b1 (n + 1) 0 v2 w = (fX0_giveUp k b0 b1 n 1 0 w) := rfl
theorem fX0_giveUp_1 (k : Nat) (b0 : Nat) (b1 : Nat) (n : Nat) (v2 : Int32) (w : ra_W) : fX0_giveUp k b0 b1 (n + 1) 1 v2 w = (if (w b0 0) ≤ v2 then (some (0, w)) else (if ra_in v2 7 then if (w (b1 + 2) (ra_ix v2)) = 3 then (if ((ra_st w (b1 + 3) (ra_ix v2) ((w (b1 + 3) (ra_ix v2)) + 1)) (b1 + 3) (ra_ix v2)) ≤ ((ra_st w (b1 + 3) (ra_ix v2) ((w (b1 + 3) (ra_ix v2)) + 1)) b0 2) then (fX0_giveUp k b0 b1 n 2 v2 (ra_st w (b1 + 3) (ra_ix v2) ((w (b1 + 3) (ra_ix v2)) + 1))) else (ra_bind (FX4_rest k b1 v2 (ra_st w (b1 + 3) (ra_ix v2) ((w (b1 + 3) (ra_ix v2)) + 1))) (fun _ w6 => fX0_giveUp k b0 b1 n 2 v2 (ra_st w6 b1 9 ((w6 b1 9) + 1))))) else (fX0_giveUp k b0 b1 n 2 v2 w) else none)) := rfl
theorem fX0_giveUp_2 (k : Nat) (b0 : Nat) (b1 : Nat) (n : Nat) (v2 : Int32) (w : ra_W) : fX0_giveUp k b0 b1 (n + 1) 2 v2 w = (fX0_giveUp k b0 b1 n 1 (v2 + 1) w) := rfl
def FX0_giveUp (k : Nat) (b0 : Nat) (b1 : Nat)  (w : ra_W) : Option (Int32 × ra_W) := fX0_giveUp k b0 b1 k 0 0 w
def pX0_giveUp_0 (Z : ra_Z) (r : Int32) (w1 : ra_W) (k : Nat) (b0 : Nat) (b1 : Nat) (n : Nat) : Prop := ∀ (v2 : Int32) (w : ra_W), fX0_giveUp k b0 b1 n 0 v2 w = some (r, w1) → ra_J Z 3 0 [(0, .ref ((zG Z).1 b0)), (1, .ref ((zG Z).1 b1))] [] w
def pX0_giveUp_1 (Z : ra_Z) (r : Int32) (w1 : ra_W) (k : Nat) (b0 : Nat) (b1 : Nat) (n : Nat) : Prop := ∀ (v2 : Int32) (w : ra_W), fX0_giveUp k b0 b1 n 1 v2 w = some (r, w1) → ra_J Z 3 2 [(0, .ref ((zG Z).1 b0)), (1, .ref ((zG Z).1 b1)), (2, .int v2)] [] w
def pX0_giveUp_2 (Z : ra_Z) (r : Int32) (w1 : ra_W) (k : Nat) (b0 : Nat) (b1 : Nat) (n : Nat) : Prop := ∀ (v2 : Int32) (w : ra_W), fX0_giveUp k b0 b1 n 2 v2 w = some (r, w1) → ra_J Z 3 58 [(0, .ref ((zG Z).1 b0)), (1, .ref ((zG Z).1 b1)), (2, .int v2)] [] w
set_option maxHeartbeats 4000000 in
theorem tX0_giveUp_0 {Z : ra_Z} {r : Int32} {w1 : ra_W} (C : ra_C Z cX0_giveUp 3 RX0 2 43) (hQ : ra_QV Z r w1) (hr : (zmt Z).sig.returnType = none) (k : Nat) (b0 : Nat) (b1 : Nat) (h0 : ra_N b0) (h1 : ra_S b1) (n : Nat) (ih1 : pX0_giveUp_1 Z r w1 k b0 b1 n) : pX0_giveUp_0 Z r w1 k b0 b1 (n + 1) := by
  intro v2 w hf
  rw [fX0_giveUp_0] at hf
  refine rg_iconst (pc := 0) (v := 0) C dX0_giveUp_0 (by decide) ?_
  refine rg_istore_n (pc := 1) (lv' := [(0, .ref ((zG Z).1 b0)), (1, .ref ((zG Z).1 b1)), (2, .int 0)]) C [1, 2, 0] rfl rfl (by decide) dX0_giveUp_1 ?_
  exact ih1 _ _ hf
set_option maxHeartbeats 4000000 in
theorem tX0_giveUp_1 {Z : ra_Z} {r : Int32} {w1 : ra_W} (C : ra_C Z cX0_giveUp 3 RX0 2 43) (hQ : ra_QV Z r w1) (hr : (zmt Z).sig.returnType = none) (k : Nat) (b0 : Nat) (b1 : Nat) (h0 : ra_N b0) (h1 : ra_S b1) (n : Nat) (ih2 : pX0_giveUp_2 Z r w1 k b0 b1 n) : pX0_giveUp_1 Z r w1 k b0 b1 (n + 1) := by
  intro v2 w hf
  rw [fX0_giveUp_1] at hf
  refine rg_iload_n (pc := 2) C 2 rfl rfl dX0_giveUp_2 ?_
  refine rg_aload_n (pc := 3) C 0 rfl rfl dX0_giveUp_3 ?_
  refine rg_get (pc := 4) C b0 2 0 h0.1 (by decide) rfl inlX2 (by decide) wd_66 rfl dX0_giveUp_4 ?_
  refine rg_icmp_ge (pc := 7) (tgt := 64) C dX0_giveUp_7 (by decide) (fun c1 => ?_) (fun c1 => ?_)
  · replace hf := ra_t hf c1
    exact rg_vret (pc := 64) C hQ hr hf dX0_giveUp_64
  · replace hf := ra_f hf c1
    refine rg_aload_n (pc := 10) C 1 rfl rfl dX0_giveUp_10 ?_
    refine rg_get (pc := 11) C b1 4 1 h1.1 (by decide) rfl inlX4 (by decide) wd_134 rfl dX0_giveUp_11 ?_
    refine rg_iload_n (pc := 14) C 2 rfl rfl dX0_giveUp_14 ?_
    obtain ⟨g2, hf⟩ := ra_gd hf
    refine rg_iald (pc := 15) (j := (ra_ix v2)) C (b1 + 2) h1.2.2.1 rfl g2 dX0_giveUp_15 ?_
    refine rg_iconst (pc := 16) (v := 3) C dX0_giveUp_16 (by decide) ?_
    refine rg_icmp_ne (pc := 17) (tgt := 58) C dX0_giveUp_17 (by decide) (fun c3 => ?_) (fun c3 => ?_)
    · replace hf := ra_f hf c3
      exact ih2 _ _ hf
    · replace hf := ra_t hf c3
      refine rg_aload_n (pc := 20) C 1 rfl rfl dX0_giveUp_20 ?_
      refine rg_get (pc := 21) C b1 4 2 h1.1 (by decide) rfl inlX4 (by decide) wd_137 rfl dX0_giveUp_21 ?_
      refine rg_iload_n (pc := 24) C 2 rfl rfl dX0_giveUp_24 ?_
      refine rg_dup2 (pc := 25) C rfl rfl dX0_giveUp_25 ?_
      refine rg_iald (pc := 26) (j := (ra_ix v2)) C (b1 + 3) h1.2.2.2.1 rfl g2 dX0_giveUp_26 ?_
      refine rg_iconst (pc := 27) (v := 1) C dX0_giveUp_27 (by decide) ?_
      refine rg_iadd (pc := 28) C dX0_giveUp_28 ?_
      refine rg_iast (pc := 29) (j := (ra_ix v2)) C (b1 + 3) h1.2.2.2.1 rfl g2 dX0_giveUp_29 ?_
      refine rg_aload_n (pc := 30) C 1 rfl rfl dX0_giveUp_30 ?_
      refine rg_get (pc := 31) C b1 4 2 h1.1 (by decide) rfl inlX4 (by decide) wd_137 rfl dX0_giveUp_31 ?_
      refine rg_iload_n (pc := 34) C 2 rfl rfl dX0_giveUp_34 ?_
      refine rg_iald (pc := 35) (j := (ra_ix v2)) C (b1 + 3) h1.2.2.2.1 rfl g2 dX0_giveUp_35 ?_
      refine rg_aload_n (pc := 36) C 0 rfl rfl dX0_giveUp_36 ?_
      refine rg_get (pc := 37) C b0 2 2 h0.1 (by decide) rfl inlX2 (by decide) wd_76 rfl dX0_giveUp_37 ?_
      refine rg_icmp_le (pc := 40) (tgt := 58) C dX0_giveUp_40 (by decide) (fun c4 => ?_) (fun c4 => ?_)
      · replace hf := ra_t hf c4
        exact ih2 _ _ hf
      · replace hf := ra_f hf c4
        refine rg_aload_n (pc := 43) C 1 rfl rfl dX0_giveUp_43 ?_
        refine rg_iload_n (pc := 44) C 2 rfl rfl dX0_giveUp_44 ?_
        obtain ⟨r5, w6, e7, hf⟩ := ra_bd hf
        refine rg_callVV (pc := 45) (As := [.int v2]) (st := []) C (kX4_rest (zl Z) (zG Z) C.hj k b1 h1 _ _ _ _ e7) h1.1 (by decide) rfl ysX4_rest rfl wd_386 ⟨Nat.le_of_ble_eq_true rfl, Nat.le_of_ble_eq_true rfl⟩ rfl (Nat.le_of_ble_eq_true rfl) dX0_giveUp_45 ?_
        refine rg_aload_n (pc := 48) C 1 rfl rfl dX0_giveUp_48 ?_
        refine rg_dup (pc := 49) C rfl dX0_giveUp_49 ?_
        refine rg_get (pc := 50) C b1 4 9 h1.1 (by decide) rfl inlX4 (by decide) wd_158 rfl dX0_giveUp_50 ?_
        refine rg_iconst (pc := 53) (v := 1) C dX0_giveUp_53 (by decide) ?_
        refine rg_iadd (pc := 54) C dX0_giveUp_54 ?_
        refine rg_put (pc := 55) C b1 4 9 h1.1 (by decide) rfl inlX4 tyX4 tyX4_ok nmX4 (by decide) wd_158 rfl rfl rfl (Nat.le_of_ble_eq_true rfl) rfl dX0_giveUp_55 ?_
        exact ih2 _ _ hf
set_option maxHeartbeats 4000000 in
theorem tX0_giveUp_2 {Z : ra_Z} {r : Int32} {w1 : ra_W} (C : ra_C Z cX0_giveUp 3 RX0 2 43) (hQ : ra_QV Z r w1) (hr : (zmt Z).sig.returnType = none) (k : Nat) (b0 : Nat) (b1 : Nat) (h0 : ra_N b0) (h1 : ra_S b1) (n : Nat) (ih1 : pX0_giveUp_1 Z r w1 k b0 b1 n) : pX0_giveUp_2 Z r w1 k b0 b1 (n + 1) := by
  intro v2 w hf
  rw [fX0_giveUp_2] at hf
  refine rg_iinc (pc := 58) (v := (v2 + 1)) (lv' := [(0, .ref ((zG Z).1 b0)), (1, .ref ((zG Z).1 b1)), (2, .int (v2 + 1))]) C 2 rfl [1, 2, 0] (ra_ii (by decide)) rfl (by decide) dX0_giveUp_58 ?_
  refine rg_goto (pc := 61) (tgt := 2) C dX0_giveUp_61 (by decide) ?_
  exact ih1 _ _ hf
theorem tX0_giveUp {Z : ra_Z} {r : Int32} {w1 : ra_W} (C : ra_C Z cX0_giveUp 3 RX0 2 43) (hQ : ra_QV Z r w1) (hr : (zmt Z).sig.returnType = none) (k : Nat) (b0 : Nat) (b1 : Nat) (h0 : ra_N b0) (h1 : ra_S b1) : ∀ n : Nat, pX0_giveUp_0 Z r w1 k b0 b1 n ∧ pX0_giveUp_1 Z r w1 k b0 b1 n ∧ pX0_giveUp_2 Z r w1 k b0 b1 n := by
  intro n
  induction n with
  | zero => exact ⟨(fun _ _ h => by cases h), (fun _ _ h => by cases h), (fun _ _ h => by cases h)⟩
  | succ n ih =>
    obtain ⟨ih0, ih1, ih2⟩ := ih
    exact ⟨tX0_giveUp_0 C hQ hr k b0 b1 h0 h1 n ih1, tX0_giveUp_1 C hQ hr k b0 b1 h0 h1 n ih2, tX0_giveUp_2 C hQ hr k b0 b1 h0 h1 n ih1⟩
theorem kX0_giveUp (l : Launch) (G : ra_G) (hj : ra_inj G) (k : Nat) (b0 : Nat) (b1 : Nat) (h0 : ra_N b0) (h1 : ra_S b1)  (w : ra_W) (r : Int32) (w1 : ra_W) (h : FX0_giveUp k b0 b1  w = some (r, w1)) : ra_MV l G yX0_giveUp cX0_giveUp 3 none 2 43 [.ref (G.1 b0), .ref (G.1 b1)] w r w1 :=
  ra_entryV (own := RX0) (by decide) rfl (Nat.le_of_ble_eq_true rfl) hj (fun Z hl hG C hQ hr => by subst hl; subst hG; exact (tX0_giveUp C hQ hr k b0 b1 h0 h1 k).1 _ _ h)
theorem ysX0_giveUp : ra_YS yX0_giveUp cX0_giveUp 3 none 2 := ⟨⟨wd_4, wd_416, by decide, by decide, by decide⟩, wd_415⟩
/-- TrunkRadio$Air.pass -/
def fX0_pass (k : Nat) (b1 : Nat) (b2 : Nat) : Nat → Nat → Int32 → Int32 → ra_W → Option (Int32 × ra_W)
  | 0, _, _, _, _ => none
  | n + 1, L, v3, v4, w => match L with
    | 0 => fX0_pass k b1 b2 n 1 0 0 (ra_cp w (b2 + 2) 0 15 0 7)
    | 1 => if 2 ≤ v3 then (ra_bind (FX0_tryAgain k b1 b2 w) (fun _ w3 => ra_bind (FX0_cutLongTalks k b1 b2 w3) (fun _ w6 => ra_bind (FX0_lineUp k b1 b2 w6) (fun r8 w9 => fX0_pass k b1 b2 n 3 r8 0 w9)))) else (ra_bind (FX4_hasControl k b2 v3 w) (fun r11 w12 => if r11 = 0 then (if ra_in v3 2 then ra_bind (FX0_helpThemselves k b1 b2 v3 (ra_st w12 (b2 + 6) (ra_ix v3) (if ((w12 (b2 + 6) (ra_ix v3)) + 1) < 99 then ((w12 (b2 + 6) (ra_ix v3)) + 1) else 99))) (fun _ w17 => fX0_pass k b1 b2 n 2 v3 0 w17) else none) else (ra_bind (FX0_hear k b1 b2 v3 w12) (fun _ w20 => fX0_pass k b1 b2 n 2 v3 0 w20))))
    | 2 => fX0_pass k b1 b2 n 1 (v3 + 1) 0 w
    | 3 => if v3 ≤ v4 then (fX0_pass k b1 b2 n 4 0 0 w) else (if 7 ≤ v4 then (fX0_pass k b1 b2 n 4 0 0 w) else (if ra_in v4 7 then ra_bind (FX0_serve k b1 b2 (w 14 (ra_ix v4)) w) (fun _ w5 => fX0_pass k b1 b2 n 3 v3 (v4 + 1) w5) else none))
    | _ => ra_bind (FX0_giveUp k b1 b2 w) (fun _ w2 => some (0, (ra_st w2 b2 6 (if ((w2 b2 6) + 1) < 999 then ((w2 b2 6) + 1) else 999))))
theorem fX0_pass_0 (k : Nat) (b1 : Nat) (b2 : Nat) (n : Nat) (v3 : Int32) (v4 : Int32) (w : ra_W) : fX0_pass k b1 b2 (n + 1) 0 v3 v4 w = (fX0_pass k b1 b2 n 1 0 0 (ra_cp w (b2 + 2) 0 15 0 7)) := rfl
theorem fX0_pass_1 (k : Nat) (b1 : Nat) (b2 : Nat) (n : Nat) (v3 : Int32) (v4 : Int32) (w : ra_W) : fX0_pass k b1 b2 (n + 1) 1 v3 v4 w = (if 2 ≤ v3 then (ra_bind (FX0_tryAgain k b1 b2 w) (fun _ w3 => ra_bind (FX0_cutLongTalks k b1 b2 w3) (fun _ w6 => ra_bind (FX0_lineUp k b1 b2 w6) (fun r8 w9 => fX0_pass k b1 b2 n 3 r8 0 w9)))) else (ra_bind (FX4_hasControl k b2 v3 w) (fun r11 w12 => if r11 = 0 then (if ra_in v3 2 then ra_bind (FX0_helpThemselves k b1 b2 v3 (ra_st w12 (b2 + 6) (ra_ix v3) (if ((w12 (b2 + 6) (ra_ix v3)) + 1) < 99 then ((w12 (b2 + 6) (ra_ix v3)) + 1) else 99))) (fun _ w17 => fX0_pass k b1 b2 n 2 v3 0 w17) else none) else (ra_bind (FX0_hear k b1 b2 v3 w12) (fun _ w20 => fX0_pass k b1 b2 n 2 v3 0 w20))))) := rfl
theorem fX0_pass_2 (k : Nat) (b1 : Nat) (b2 : Nat) (n : Nat) (v3 : Int32) (v4 : Int32) (w : ra_W) : fX0_pass k b1 b2 (n + 1) 2 v3 v4 w = (fX0_pass k b1 b2 n 1 (v3 + 1) 0 w) := rfl
theorem fX0_pass_3 (k : Nat) (b1 : Nat) (b2 : Nat) (n : Nat) (v3 : Int32) (v4 : Int32) (w : ra_W) : fX0_pass k b1 b2 (n + 1) 3 v3 v4 w = (if v3 ≤ v4 then (fX0_pass k b1 b2 n 4 0 0 w) else (if 7 ≤ v4 then (fX0_pass k b1 b2 n 4 0 0 w) else (if ra_in v4 7 then ra_bind (FX0_serve k b1 b2 (w 14 (ra_ix v4)) w) (fun _ w5 => fX0_pass k b1 b2 n 3 v3 (v4 + 1) w5) else none))) := rfl
theorem fX0_pass_4 (k : Nat) (b1 : Nat) (b2 : Nat) (n : Nat) (v3 : Int32) (v4 : Int32) (w : ra_W) : fX0_pass k b1 b2 (n + 1) 4 v3 v4 w = (ra_bind (FX0_giveUp k b1 b2 w) (fun _ w2 => some (0, (ra_st w2 b2 6 (if ((w2 b2 6) + 1) < 999 then ((w2 b2 6) + 1) else 999))))) := rfl
def FX0_pass (k : Nat) (b1 : Nat) (b2 : Nat)  (w : ra_W) : Option (Int32 × ra_W) := fX0_pass k b1 b2 k 0 0 0 w
def pX0_pass_0 (Z : ra_Z) (r : Int32) (w1 : ra_W) (k : Nat) (b1 : Nat) (b2 : Nat) (n : Nat) : Prop := ∀ (v3 : Int32) (v4 : Int32) (w : ra_W), fX0_pass k b1 b2 n 0 v3 v4 w = some (r, w1) → ra_J Z 5 0 [(0, .ref ((zG Z).1 13)), (1, .ref ((zG Z).1 b1)), (2, .ref ((zG Z).1 b2))] [] w
def pX0_pass_1 (Z : ra_Z) (r : Int32) (w1 : ra_W) (k : Nat) (b1 : Nat) (b2 : Nat) (n : Nat) : Prop := ∀ (v3 : Int32) (v4 : Int32) (w : ra_W), fX0_pass k b1 b2 n 1 v3 v4 w = some (r, w1) → ra_J Z 5 17 [(0, .ref ((zG Z).1 13)), (1, .ref ((zG Z).1 b1)), (2, .ref ((zG Z).1 b2)), (3, .int v3)] [] w
def pX0_pass_2 (Z : ra_Z) (r : Int32) (w1 : ra_W) (k : Nat) (b1 : Nat) (b2 : Nat) (n : Nat) : Prop := ∀ (v3 : Int32) (v4 : Int32) (w : ra_W), fX0_pass k b1 b2 n 2 v3 v4 w = some (r, w1) → ra_J Z 5 64 [(0, .ref ((zG Z).1 13)), (1, .ref ((zG Z).1 b1)), (2, .ref ((zG Z).1 b2)), (3, .int v3)] [] w
def pX0_pass_3 (Z : ra_Z) (r : Int32) (w1 : ra_W) (k : Nat) (b1 : Nat) (b2 : Nat) (n : Nat) : Prop := ∀ (v3 : Int32) (v4 : Int32) (w : ra_W), fX0_pass k b1 b2 n 3 v3 v4 w = some (r, w1) → ra_J Z 5 92 [(0, .ref ((zG Z).1 13)), (1, .ref ((zG Z).1 b1)), (2, .ref ((zG Z).1 b2)), (3, .int v3), (4, .int v4)] [] w
def pX0_pass_4 (Z : ra_Z) (r : Int32) (w1 : ra_W) (k : Nat) (b1 : Nat) (b2 : Nat) (n : Nat) : Prop := ∀ (v3 : Int32) (v4 : Int32) (w : ra_W), fX0_pass k b1 b2 n 4 v3 v4 w = some (r, w1) → ra_J Z 5 123 [(0, .ref ((zG Z).1 13)), (1, .ref ((zG Z).1 b1)), (2, .ref ((zG Z).1 b2))] [] w
set_option maxHeartbeats 4000000 in
theorem tX0_pass_0 {Z : ra_Z} {r : Int32} {w1 : ra_W} (C : ra_C Z cX0_pass 5 RX0 4 93) (hQ : ra_QV Z r w1) (hr : (zmt Z).sig.returnType = none) (k : Nat) (b1 : Nat) (b2 : Nat) (h1 : ra_N b1) (h2 : ra_S b2) (n : Nat) (ih1 : pX0_pass_1 Z r w1 k b1 b2 n) : pX0_pass_0 Z r w1 k b1 b2 (n + 1) := by
  intro v3 v4 w hf
  rw [fX0_pass_0] at hf
  refine rg_aload_n (pc := 0) C 2 rfl rfl dX0_pass_0 ?_
  refine rg_get (pc := 1) C b2 4 1 h2.1 (by decide) rfl inlX4 (by decide) wd_134 rfl dX0_pass_1 ?_
  refine rg_iconst (pc := 4) (v := 0) C dX0_pass_4 (by decide) ?_
  refine rg_aload_n (pc := 5) C 0 rfl rfl dX0_pass_5 ?_
  refine rg_get (pc := 6) C 13 0 1 kd_13 (by decide) rfl inlX0 (by decide) wd_118 rfl dX0_pass_6 ?_
  refine rg_iconst (pc := 9) (v := 0) C dX0_pass_9 (by decide) ?_
  refine rg_bipush (pc := 10) (v := 7) C dX0_pass_10 (by decide) ?_
  refine rg_copy (pc := 12) (s0 := 0) (d0 := 0) (m0 := 7) C wd_353 wd_318 wd_317 wd_9 (b2 + 2) 15 h2.2.2.1 kd_15 (by decide) (by decide) (by decide) (by decide) (by decide) (by decide) (by decide) (by decide) (by decide) (Nat.le_of_ble_eq_true rfl) dX0_pass_12 ?_
  refine rg_iconst (pc := 15) (v := 0) C dX0_pass_15 (by decide) ?_
  refine rg_istore_n (pc := 16) (lv' := [(0, .ref ((zG Z).1 13)), (1, .ref ((zG Z).1 b1)), (2, .ref ((zG Z).1 b2)), (3, .int 0)]) C [1, 2, 3, 0] rfl rfl (by decide) dX0_pass_16 ?_
  exact ih1 _ _ _ hf
set_option maxHeartbeats 4000000 in
theorem tX0_pass_1 {Z : ra_Z} {r : Int32} {w1 : ra_W} (C : ra_C Z cX0_pass 5 RX0 4 93) (hQ : ra_QV Z r w1) (hr : (zmt Z).sig.returnType = none) (k : Nat) (b1 : Nat) (b2 : Nat) (h1 : ra_N b1) (h2 : ra_S b2) (n : Nat) (ih2 : pX0_pass_2 Z r w1 k b1 b2 n) (ih3 : pX0_pass_3 Z r w1 k b1 b2 n) : pX0_pass_1 Z r w1 k b1 b2 (n + 1) := by
  intro v3 v4 w hf
  rw [fX0_pass_1] at hf
  refine rg_iload_n (pc := 17) C 3 rfl rfl dX0_pass_17 ?_
  refine rg_iconst (pc := 18) (v := 2) C dX0_pass_18 (by decide) ?_
  refine rg_icmp_ge (pc := 19) (tgt := 70) C dX0_pass_19 (by decide) (fun c1 => ?_) (fun c1 => ?_)
  · replace hf := ra_t hf c1
    refine rg_aload_n (pc := 70) C 0 rfl rfl dX0_pass_70 ?_
    refine rg_aload_n (pc := 71) C 1 rfl rfl dX0_pass_71 ?_
    refine rg_aload_n (pc := 72) C 2 rfl rfl dX0_pass_72 ?_
    obtain ⟨r2, w3, e4, hf⟩ := ra_bd hf
    refine rg_callVV (pc := 73) (As := [.ref ((zG Z).1 b1), .ref ((zG Z).1 b2)]) (st := []) C (kX0_tryAgain (zl Z) (zG Z) C.hj k b1 b2 h1 h2 _ _ _ e4) kd_13 (by decide) rfl ysX0_tryAgain rfl wd_378 ⟨Nat.le_of_ble_eq_true rfl, Nat.le_of_ble_eq_true rfl⟩ rfl (Nat.le_of_ble_eq_true rfl) dX0_pass_73 ?_
    refine rg_aload_n (pc := 76) C 0 rfl rfl dX0_pass_76 ?_
    refine rg_aload_n (pc := 77) C 1 rfl rfl dX0_pass_77 ?_
    refine rg_aload_n (pc := 78) C 2 rfl rfl dX0_pass_78 ?_
    obtain ⟨r5, w6, e7, hf⟩ := ra_bd hf
    refine rg_callVV (pc := 79) (As := [.ref ((zG Z).1 b1), .ref ((zG Z).1 b2)]) (st := []) C (kX0_cutLongTalks (zl Z) (zG Z) C.hj k b1 b2 h1 h2 _ _ _ e7) kd_13 (by decide) rfl ysX0_cutLongTalks rfl wd_382 ⟨Nat.le_of_ble_eq_true rfl, Nat.le_of_ble_eq_true rfl⟩ rfl (Nat.le_of_ble_eq_true rfl) dX0_pass_79 ?_
    refine rg_aload_n (pc := 82) C 0 rfl rfl dX0_pass_82 ?_
    refine rg_aload_n (pc := 83) C 1 rfl rfl dX0_pass_83 ?_
    refine rg_aload_n (pc := 84) C 2 rfl rfl dX0_pass_84 ?_
    obtain ⟨r8, w9, e10, hf⟩ := ra_bd hf
    refine rg_callVI (pc := 85) (As := [.ref ((zG Z).1 b1), .ref ((zG Z).1 b2)]) (st := []) C (kX0_lineUp (zl Z) (zG Z) C.hj k b1 b2 h1 h2 _ _ _ e10) kd_13 (by decide) rfl ysX0_lineUp rfl wd_387 ⟨Nat.le_of_ble_eq_true rfl, Nat.le_of_ble_eq_true rfl⟩ rfl (Nat.le_of_ble_eq_true rfl) dX0_pass_85 ?_
    refine rg_istore_n (pc := 88) (lv' := [(0, .ref ((zG Z).1 13)), (1, .ref ((zG Z).1 b1)), (2, .ref ((zG Z).1 b2)), (3, .int r8)]) C [1, 2, 3, 0] rfl rfl (by decide) dX0_pass_88 ?_
    refine rg_iconst (pc := 89) (v := 0) C dX0_pass_89 (by decide) ?_
    refine rg_istore (pc := 90) (lv' := [(0, .ref ((zG Z).1 13)), (1, .ref ((zG Z).1 b1)), (2, .ref ((zG Z).1 b2)), (3, .int r8), (4, .int 0)]) C [1, 2, 3, 4, 0] rfl (by decide) dX0_pass_90 ?_
    exact ih3 _ _ _ hf
  · replace hf := ra_f hf c1
    refine rg_aload_n (pc := 22) C 2 rfl rfl dX0_pass_22 ?_
    refine rg_iload_n (pc := 23) C 3 rfl rfl dX0_pass_23 ?_
    obtain ⟨r11, w12, e13, hf⟩ := ra_bd hf
    refine rg_callVI (pc := 24) (As := [.int v3]) (st := []) C (kX4_hasControl (zl Z) (zG Z) C.hj k b2 h2 _ _ _ _ e13) h2.1 (by decide) rfl ysX4_hasControl rfl wd_354 ⟨Nat.le_of_ble_eq_true rfl, Nat.le_of_ble_eq_true rfl⟩ rfl (Nat.le_of_ble_eq_true rfl) dX0_pass_24 ?_
    refine rg_if_eq (pc := 27) (tgt := 39) C dX0_pass_27 (by decide) (fun c14 => ?_) (fun c14 => ?_)
    · replace hf := ra_t hf c14
      refine rg_aload_n (pc := 39) C 2 rfl rfl dX0_pass_39 ?_
      refine rg_get (pc := 40) C b2 4 5 h2.1 (by decide) rfl inlX4 (by decide) wd_146 rfl dX0_pass_40 ?_
      refine rg_iload_n (pc := 43) C 3 rfl rfl dX0_pass_43 ?_
      refine rg_bipush (pc := 44) (v := 99) C dX0_pass_44 (by decide) ?_
      refine rg_aload_n (pc := 46) C 2 rfl rfl dX0_pass_46 ?_
      refine rg_get (pc := 47) C b2 4 5 h2.1 (by decide) rfl inlX4 (by decide) wd_146 rfl dX0_pass_47 ?_
      refine rg_iload_n (pc := 50) C 3 rfl rfl dX0_pass_50 ?_
      obtain ⟨g15, hf⟩ := ra_gd hf
      refine rg_iald (pc := 51) (j := (ra_ix v3)) C (b2 + 6) h2.2.2.2.2.2.2 rfl g15 dX0_pass_51 ?_
      refine rg_iconst (pc := 52) (v := 1) C dX0_pass_52 (by decide) ?_
      refine rg_iadd (pc := 53) C dX0_pass_53 ?_
      refine rg_min (pc := 54) C wd_368 wd_282 wd_8 wd_283 (by decide) (Nat.le_of_ble_eq_true rfl) dX0_pass_54 ?_
      refine rg_iast (pc := 57) (j := (ra_ix v3)) C (b2 + 6) h2.2.2.2.2.2.2 rfl g15 dX0_pass_57 ?_
      refine rg_aload_n (pc := 58) C 1 rfl rfl dX0_pass_58 ?_
      refine rg_aload_n (pc := 59) C 2 rfl rfl dX0_pass_59 ?_
      refine rg_iload_n (pc := 60) C 3 rfl rfl dX0_pass_60 ?_
      obtain ⟨r16, w17, e18, hf⟩ := ra_bd hf
      refine rg_callSV (pc := 61) (As := [.ref ((zG Z).1 b1), .ref ((zG Z).1 b2), .int v3]) (st := []) C (kX0_helpThemselves (zl Z) (zG Z) C.hj k b1 b2 h1 h2 _ _ _ _ e18) ysX0_helpThemselves rfl wd_369 ⟨Nat.le_of_ble_eq_true rfl, Nat.le_of_ble_eq_true rfl⟩ rfl (Nat.le_of_ble_eq_true rfl) dX0_pass_61 ?_
      exact ih2 _ _ _ hf
    · replace hf := ra_f hf c14
      refine rg_aload_n (pc := 30) C 1 rfl rfl dX0_pass_30 ?_
      refine rg_aload_n (pc := 31) C 2 rfl rfl dX0_pass_31 ?_
      refine rg_iload_n (pc := 32) C 3 rfl rfl dX0_pass_32 ?_
      obtain ⟨r19, w20, e21, hf⟩ := ra_bd hf
      refine rg_callSV (pc := 33) (As := [.ref ((zG Z).1 b1), .ref ((zG Z).1 b2), .int v3]) (st := []) C (kX0_hear (zl Z) (zG Z) C.hj k b1 b2 h1 h2 _ _ _ _ e21) ysX0_hear rfl wd_358 ⟨Nat.le_of_ble_eq_true rfl, Nat.le_of_ble_eq_true rfl⟩ rfl (Nat.le_of_ble_eq_true rfl) dX0_pass_33 ?_
      refine rg_goto (pc := 36) (tgt := 64) C dX0_pass_36 (by decide) ?_
      exact ih2 _ _ _ hf
set_option maxHeartbeats 4000000 in
theorem tX0_pass_2 {Z : ra_Z} {r : Int32} {w1 : ra_W} (C : ra_C Z cX0_pass 5 RX0 4 93) (hQ : ra_QV Z r w1) (hr : (zmt Z).sig.returnType = none) (k : Nat) (b1 : Nat) (b2 : Nat) (h1 : ra_N b1) (h2 : ra_S b2) (n : Nat) (ih1 : pX0_pass_1 Z r w1 k b1 b2 n) : pX0_pass_2 Z r w1 k b1 b2 (n + 1) := by
  intro v3 v4 w hf
  rw [fX0_pass_2] at hf
  refine rg_iinc (pc := 64) (v := (v3 + 1)) (lv' := [(0, .ref ((zG Z).1 13)), (1, .ref ((zG Z).1 b1)), (2, .ref ((zG Z).1 b2)), (3, .int (v3 + 1))]) C 3 rfl [1, 2, 3, 0] (ra_ii (by decide)) rfl (by decide) dX0_pass_64 ?_
  refine rg_goto (pc := 67) (tgt := 17) C dX0_pass_67 (by decide) ?_
  exact ih1 _ _ _ hf
set_option maxHeartbeats 4000000 in
theorem tX0_pass_3 {Z : ra_Z} {r : Int32} {w1 : ra_W} (C : ra_C Z cX0_pass 5 RX0 4 93) (hQ : ra_QV Z r w1) (hr : (zmt Z).sig.returnType = none) (k : Nat) (b1 : Nat) (b2 : Nat) (h1 : ra_N b1) (h2 : ra_S b2) (n : Nat) (ih3 : pX0_pass_3 Z r w1 k b1 b2 n) (ih4 : pX0_pass_4 Z r w1 k b1 b2 n) : pX0_pass_3 Z r w1 k b1 b2 (n + 1) := by
  intro v3 v4 w hf
  rw [fX0_pass_3] at hf
  refine rg_iload (pc := 92) C 4 rfl dX0_pass_92 ?_
  refine rg_iload_n (pc := 94) C 3 rfl rfl dX0_pass_94 ?_
  refine rg_icmp_ge (pc := 95) (tgt := 123) C dX0_pass_95 (by decide) (fun c1 => ?_) (fun c1 => ?_)
  · replace hf := ra_t hf c1
    refine rg_sub [0, 1, 2] rfl ?_
    exact ih4 _ _ _ hf
  · replace hf := ra_f hf c1
    refine rg_iload (pc := 98) C 4 rfl dX0_pass_98 ?_
    refine rg_bipush (pc := 100) (v := 7) C dX0_pass_100 (by decide) ?_
    refine rg_icmp_ge (pc := 102) (tgt := 123) C dX0_pass_102 (by decide) (fun c2 => ?_) (fun c2 => ?_)
    · replace hf := ra_t hf c2
      refine rg_sub [0, 1, 2] rfl ?_
      exact ih4 _ _ _ hf
    · replace hf := ra_f hf c2
      refine rg_aload_n (pc := 105) C 1 rfl rfl dX0_pass_105 ?_
      refine rg_aload_n (pc := 106) C 2 rfl rfl dX0_pass_106 ?_
      refine rg_aload_n (pc := 107) C 0 rfl rfl dX0_pass_107 ?_
      refine rg_get (pc := 108) C 13 0 0 kd_13 (by decide) rfl inlX0 (by decide) wd_116 rfl dX0_pass_108 ?_
      refine rg_iload (pc := 111) C 4 rfl dX0_pass_111 ?_
      obtain ⟨g3, hf⟩ := ra_gd hf
      refine rg_iald (pc := 113) (j := (ra_ix v4)) C 14 kd_14 rfl g3 dX0_pass_113 ?_
      obtain ⟨r4, w5, e6, hf⟩ := ra_bd hf
      refine rg_callSV (pc := 114) (As := [.ref ((zG Z).1 b1), .ref ((zG Z).1 b2), .int (w 14 (ra_ix v4))]) (st := []) C (kX0_serve (zl Z) (zG Z) C.hj k b1 b2 h1 h2 _ _ _ _ e6) ysX0_serve rfl wd_394 ⟨Nat.le_of_ble_eq_true rfl, Nat.le_of_ble_eq_true rfl⟩ rfl (Nat.le_of_ble_eq_true rfl) dX0_pass_114 ?_
      refine rg_iinc (pc := 117) (v := (v4 + 1)) (lv' := [(0, .ref ((zG Z).1 13)), (1, .ref ((zG Z).1 b1)), (2, .ref ((zG Z).1 b2)), (3, .int v3), (4, .int (v4 + 1))]) C 4 rfl [1, 2, 3, 4, 0] (ra_ii (by decide)) rfl (by decide) dX0_pass_117 ?_
      refine rg_goto (pc := 120) (tgt := 92) C dX0_pass_120 (by decide) ?_
      exact ih3 _ _ _ hf
set_option maxHeartbeats 4000000 in
theorem tX0_pass_4 {Z : ra_Z} {r : Int32} {w1 : ra_W} (C : ra_C Z cX0_pass 5 RX0 4 93) (hQ : ra_QV Z r w1) (hr : (zmt Z).sig.returnType = none) (k : Nat) (b1 : Nat) (b2 : Nat) (h1 : ra_N b1) (h2 : ra_S b2) (n : Nat) : pX0_pass_4 Z r w1 k b1 b2 (n + 1) := by
  intro v3 v4 w hf
  rw [fX0_pass_4] at hf
  refine rg_aload_n (pc := 123) C 1 rfl rfl dX0_pass_123 ?_
  refine rg_aload_n (pc := 124) C 2 rfl rfl dX0_pass_124 ?_
  obtain ⟨r1, w2, e3, hf⟩ := ra_bd hf
  refine rg_callSV (pc := 125) (As := [.ref ((zG Z).1 b1), .ref ((zG Z).1 b2)]) (st := []) C (kX0_giveUp (zl Z) (zG Z) C.hj k b1 b2 h1 h2 _ _ _ e3) ysX0_giveUp rfl wd_414 ⟨Nat.le_of_ble_eq_true rfl, Nat.le_of_ble_eq_true rfl⟩ rfl (Nat.le_of_ble_eq_true rfl) dX0_pass_125 ?_
  refine rg_aload_n (pc := 128) C 2 rfl rfl dX0_pass_128 ?_
  refine rg_sipush (pc := 129) (v := 999) C dX0_pass_129 (by decide) ?_
  refine rg_aload_n (pc := 132) C 2 rfl rfl dX0_pass_132 ?_
  refine rg_get (pc := 133) C b2 4 6 h2.1 (by decide) rfl inlX4 (by decide) wd_149 rfl dX0_pass_133 ?_
  refine rg_iconst (pc := 136) (v := 1) C dX0_pass_136 (by decide) ?_
  refine rg_iadd (pc := 137) C dX0_pass_137 ?_
  refine rg_min (pc := 138) C wd_368 wd_282 wd_8 wd_283 (by decide) (Nat.le_of_ble_eq_true rfl) dX0_pass_138 ?_
  refine rg_put (pc := 141) C b2 4 6 h2.1 (by decide) rfl inlX4 tyX4 tyX4_ok nmX4 (by decide) wd_149 rfl rfl rfl (Nat.le_of_ble_eq_true rfl) rfl dX0_pass_141 ?_
  exact rg_vret (pc := 144) C hQ hr hf dX0_pass_144
theorem tX0_pass {Z : ra_Z} {r : Int32} {w1 : ra_W} (C : ra_C Z cX0_pass 5 RX0 4 93) (hQ : ra_QV Z r w1) (hr : (zmt Z).sig.returnType = none) (k : Nat) (b1 : Nat) (b2 : Nat) (h1 : ra_N b1) (h2 : ra_S b2) : ∀ n : Nat, pX0_pass_0 Z r w1 k b1 b2 n ∧ pX0_pass_1 Z r w1 k b1 b2 n ∧ pX0_pass_2 Z r w1 k b1 b2 n ∧ pX0_pass_3 Z r w1 k b1 b2 n ∧ pX0_pass_4 Z r w1 k b1 b2 n := by
  intro n
  induction n with
  | zero => exact ⟨(fun _ _ _ h => by cases h), (fun _ _ _ h => by cases h), (fun _ _ _ h => by cases h), (fun _ _ _ h => by cases h), (fun _ _ _ h => by cases h)⟩
  | succ n ih =>
    obtain ⟨ih0, ih1, ih2, ih3, ih4⟩ := ih
    exact ⟨tX0_pass_0 C hQ hr k b1 b2 h1 h2 n ih1, tX0_pass_1 C hQ hr k b1 b2 h1 h2 n ih2 ih3, tX0_pass_2 C hQ hr k b1 b2 h1 h2 n ih1, tX0_pass_3 C hQ hr k b1 b2 h1 h2 n ih3 ih4, tX0_pass_4 C hQ hr k b1 b2 h1 h2 n⟩
theorem kX0_pass (l : Launch) (G : ra_G) (hj : ra_inj G) (k : Nat) (b1 : Nat) (b2 : Nat) (h1 : ra_N b1) (h2 : ra_S b2)  (w : ra_W) (r : Int32) (w1 : ra_W) (h : FX0_pass k b1 b2  w = some (r, w1)) : ra_MV l G yX0_pass cX0_pass 5 none 4 93 [.ref (G.1 13), .ref (G.1 b1), .ref (G.1 b2)] w r w1 :=
  ra_entryV (own := RX0) (by decide) rfl (Nat.le_of_ble_eq_true rfl) hj (fun Z hl hG C hQ hr => by subst hl; subst hG; exact (tX0_pass C hQ hr k b1 b2 h1 h2 k).1 _ _ _ h)
theorem ysX0_pass : ra_YV yX0_pass cX0_pass 5 none 2 RX0 := ⟨⟨wd_4, wd_352, by decide, by decide, by decide⟩, wd_350, wd_351⟩
/-- TrunkRadio$History.lose -/
def fX1_lose (k : Nat) : Nat → Nat → ra_W → Option (Int32 × ra_W)
  | 0, _, _ => none
  | n + 1, L, w => match L with
    | _ => some (0, (ra_st w 30 0 0))
theorem fX1_lose_0 (k : Nat) (n : Nat)  (w : ra_W) : fX1_lose k (n + 1) 0  w = (some (0, (ra_st w 30 0 0))) := rfl
def FX1_lose (k : Nat)  (w : ra_W) : Option (Int32 × ra_W) := fX1_lose k k 0  w
def pX1_lose_0 (Z : ra_Z) (r : Int32) (w1 : ra_W) (k : Nat) (n : Nat) : Prop := ∀  (w : ra_W), fX1_lose k n 0  w = some (r, w1) → ra_J Z 1 0 [(0, .ref ((zG Z).1 30))] [] w
set_option maxHeartbeats 4000000 in
theorem tX1_lose_0 {Z : ra_Z} {r : Int32} {w1 : ra_W} (C : ra_C Z cX1_lose 1 RX1 0 0) (hQ : ra_QV Z r w1) (hr : (zmt Z).sig.returnType = none) (k : Nat) (n : Nat) : pX1_lose_0 Z r w1 k (n + 1) := by
  intro w hf
  rw [fX1_lose_0] at hf
  refine rg_aload_n (pc := 0) C 0 rfl rfl dX1_lose_0 ?_
  refine rg_iconst (pc := 1) (v := 0) C dX1_lose_1 (by decide) ?_
  refine rg_put (pc := 2) C 30 1 0 kd_30 (by decide) rfl inlX1 tyX1 tyX1_ok nmX1 (by decide) wd_190 rfl rfl rfl (Nat.le_of_ble_eq_true rfl) rfl dX1_lose_2 ?_
  exact rg_vret (pc := 5) C hQ hr hf dX1_lose_5
theorem tX1_lose {Z : ra_Z} {r : Int32} {w1 : ra_W} (C : ra_C Z cX1_lose 1 RX1 0 0) (hQ : ra_QV Z r w1) (hr : (zmt Z).sig.returnType = none) (k : Nat) : ∀ n : Nat, pX1_lose_0 Z r w1 k n := by
  intro n
  induction n with
  | zero => exact (fun _ h => by cases h)
  | succ n ih => exact tX1_lose_0 C hQ hr k n
theorem kX1_lose (l : Launch) (G : ra_G) (hj : ra_inj G) (k : Nat)  (w : ra_W) (r : Int32) (w1 : ra_W) (h : FX1_lose k  w = some (r, w1)) : ra_MV l G yX1_lose cX1_lose 1 none 0 0 [.ref (G.1 30)] w r w1 :=
  ra_entryV (own := RX1) (by decide) rfl (Nat.le_of_ble_eq_true rfl) hj (fun Z hl hG C hQ hr => by subst hl; subst hG; exact (tX1_lose C hQ hr k k) _ h)
theorem ysX1_lose : ra_YV yX1_lose cX1_lose 1 none 0 RX1 := ⟨⟨wd_6, wd_334, by decide, by decide, by decide⟩, wd_332, wd_333⟩
/-- TrunkRadio$State.copy -/
def fX4_copy (k : Nat) (b0 : Nat) (b1 : Nat) : Nat → Nat → ra_W → Option (Int32 × ra_W)
  | 0, _, _ => none
  | n + 1, L, w => match L with
    | _ => some (0, (ra_st (ra_st (ra_st (ra_st (ra_cp (ra_cp (ra_cp (ra_cp (ra_cp (ra_cp w (b1 + 1) 0 (b0 + 1) 0 7) (b1 + 2) 0 (b0 + 2) 0 7) (b1 + 3) 0 (b0 + 3) 0 7) (b1 + 4) 0 (b0 + 4) 0 7) (b1 + 5) 0 (b0 + 5) 0 7) (b1 + 6) 0 (b0 + 6) 0 2) b0 6 ((ra_cp (ra_cp (ra_cp (ra_cp (ra_cp (ra_cp w (b1 + 1) 0 (b0 + 1) 0 7) (b1 + 2) 0 (b0 + 2) 0 7) (b1 + 3) 0 (b0 + 3) 0 7) (b1 + 4) 0 (b0 + 4) 0 7) (b1 + 5) 0 (b0 + 5) 0 7) (b1 + 6) 0 (b0 + 6) 0 2) b1 6)) b0 7 ((ra_st (ra_cp (ra_cp (ra_cp (ra_cp (ra_cp (ra_cp w (b1 + 1) 0 (b0 + 1) 0 7) (b1 + 2) 0 (b0 + 2) 0 7) (b1 + 3) 0 (b0 + 3) 0 7) (b1 + 4) 0 (b0 + 4) 0 7) (b1 + 5) 0 (b0 + 5) 0 7) (b1 + 6) 0 (b0 + 6) 0 2) b0 6 ((ra_cp (ra_cp (ra_cp (ra_cp (ra_cp (ra_cp w (b1 + 1) 0 (b0 + 1) 0 7) (b1 + 2) 0 (b0 + 2) 0 7) (b1 + 3) 0 (b0 + 3) 0 7) (b1 + 4) 0 (b0 + 4) 0 7) (b1 + 5) 0 (b0 + 5) 0 7) (b1 + 6) 0 (b0 + 6) 0 2) b1 6)) b1 7)) b0 8 ((ra_st (ra_st (ra_cp (ra_cp (ra_cp (ra_cp (ra_cp (ra_cp w (b1 + 1) 0 (b0 + 1) 0 7) (b1 + 2) 0 (b0 + 2) 0 7) (b1 + 3) 0 (b0 + 3) 0 7) (b1 + 4) 0 (b0 + 4) 0 7) (b1 + 5) 0 (b0 + 5) 0 7) (b1 + 6) 0 (b0 + 6) 0 2) b0 6 ((ra_cp (ra_cp (ra_cp (ra_cp (ra_cp (ra_cp w (b1 + 1) 0 (b0 + 1) 0 7) (b1 + 2) 0 (b0 + 2) 0 7) (b1 + 3) 0 (b0 + 3) 0 7) (b1 + 4) 0 (b0 + 4) 0 7) (b1 + 5) 0 (b0 + 5) 0 7) (b1 + 6) 0 (b0 + 6) 0 2) b1 6)) b0 7 ((ra_st (ra_cp (ra_cp (ra_cp (ra_cp (ra_cp (ra_cp w (b1 + 1) 0 (b0 + 1) 0 7) (b1 + 2) 0 (b0 + 2) 0 7) (b1 + 3) 0 (b0 + 3) 0 7) (b1 + 4) 0 (b0 + 4) 0 7) (b1 + 5) 0 (b0 + 5) 0 7) (b1 + 6) 0 (b0 + 6) 0 2) b0 6 ((ra_cp (ra_cp (ra_cp (ra_cp (ra_cp (ra_cp w (b1 + 1) 0 (b0 + 1) 0 7) (b1 + 2) 0 (b0 + 2) 0 7) (b1 + 3) 0 (b0 + 3) 0 7) (b1 + 4) 0 (b0 + 4) 0 7) (b1 + 5) 0 (b0 + 5) 0 7) (b1 + 6) 0 (b0 + 6) 0 2) b1 6)) b1 7)) b1 8)) b0 9 ((ra_st (ra_st (ra_st (ra_cp (ra_cp (ra_cp (ra_cp (ra_cp (ra_cp w (b1 + 1) 0 (b0 + 1) 0 7) (b1 + 2) 0 (b0 + 2) 0 7) (b1 + 3) 0 (b0 + 3) 0 7) (b1 + 4) 0 (b0 + 4) 0 7) (b1 + 5) 0 (b0 + 5) 0 7) (b1 + 6) 0 (b0 + 6) 0 2) b0 6 ((ra_cp (ra_cp (ra_cp (ra_cp (ra_cp (ra_cp w (b1 + 1) 0 (b0 + 1) 0 7) (b1 + 2) 0 (b0 + 2) 0 7) (b1 + 3) 0 (b0 + 3) 0 7) (b1 + 4) 0 (b0 + 4) 0 7) (b1 + 5) 0 (b0 + 5) 0 7) (b1 + 6) 0 (b0 + 6) 0 2) b1 6)) b0 7 ((ra_st (ra_cp (ra_cp (ra_cp (ra_cp (ra_cp (ra_cp w (b1 + 1) 0 (b0 + 1) 0 7) (b1 + 2) 0 (b0 + 2) 0 7) (b1 + 3) 0 (b0 + 3) 0 7) (b1 + 4) 0 (b0 + 4) 0 7) (b1 + 5) 0 (b0 + 5) 0 7) (b1 + 6) 0 (b0 + 6) 0 2) b0 6 ((ra_cp (ra_cp (ra_cp (ra_cp (ra_cp (ra_cp w (b1 + 1) 0 (b0 + 1) 0 7) (b1 + 2) 0 (b0 + 2) 0 7) (b1 + 3) 0 (b0 + 3) 0 7) (b1 + 4) 0 (b0 + 4) 0 7) (b1 + 5) 0 (b0 + 5) 0 7) (b1 + 6) 0 (b0 + 6) 0 2) b1 6)) b1 7)) b0 8 ((ra_st (ra_st (ra_cp (ra_cp (ra_cp (ra_cp (ra_cp (ra_cp w (b1 + 1) 0 (b0 + 1) 0 7) (b1 + 2) 0 (b0 + 2) 0 7) (b1 + 3) 0 (b0 + 3) 0 7) (b1 + 4) 0 (b0 + 4) 0 7) (b1 + 5) 0 (b0 + 5) 0 7) (b1 + 6) 0 (b0 + 6) 0 2) b0 6 ((ra_cp (ra_cp (ra_cp (ra_cp (ra_cp (ra_cp w (b1 + 1) 0 (b0 + 1) 0 7) (b1 + 2) 0 (b0 + 2) 0 7) (b1 + 3) 0 (b0 + 3) 0 7) (b1 + 4) 0 (b0 + 4) 0 7) (b1 + 5) 0 (b0 + 5) 0 7) (b1 + 6) 0 (b0 + 6) 0 2) b1 6)) b0 7 ((ra_st (ra_cp (ra_cp (ra_cp (ra_cp (ra_cp (ra_cp w (b1 + 1) 0 (b0 + 1) 0 7) (b1 + 2) 0 (b0 + 2) 0 7) (b1 + 3) 0 (b0 + 3) 0 7) (b1 + 4) 0 (b0 + 4) 0 7) (b1 + 5) 0 (b0 + 5) 0 7) (b1 + 6) 0 (b0 + 6) 0 2) b0 6 ((ra_cp (ra_cp (ra_cp (ra_cp (ra_cp (ra_cp w (b1 + 1) 0 (b0 + 1) 0 7) (b1 + 2) 0 (b0 + 2) 0 7) (b1 + 3) 0 (b0 + 3) 0 7) (b1 + 4) 0 (b0 + 4) 0 7) (b1 + 5) 0 (b0 + 5) 0 7) (b1 + 6) 0 (b0 + 6) 0 2) b1 6)) b1 7)) b1 8)) b1 9)))
theorem fX4_copy_0 (k : Nat) (b0 : Nat) (b1 : Nat) (n : Nat)  (w : ra_W) : fX4_copy k b0 b1 (n + 1) 0  w = (some (0, (ra_st (ra_st (ra_st (ra_st (ra_cp (ra_cp (ra_cp (ra_cp (ra_cp (ra_cp w (b1 + 1) 0 (b0 + 1) 0 7) (b1 + 2) 0 (b0 + 2) 0 7) (b1 + 3) 0 (b0 + 3) 0 7) (b1 + 4) 0 (b0 + 4) 0 7) (b1 + 5) 0 (b0 + 5) 0 7) (b1 + 6) 0 (b0 + 6) 0 2) b0 6 ((ra_cp (ra_cp (ra_cp (ra_cp (ra_cp (ra_cp w (b1 + 1) 0 (b0 + 1) 0 7) (b1 + 2) 0 (b0 + 2) 0 7) (b1 + 3) 0 (b0 + 3) 0 7) (b1 + 4) 0 (b0 + 4) 0 7) (b1 + 5) 0 (b0 + 5) 0 7) (b1 + 6) 0 (b0 + 6) 0 2) b1 6)) b0 7 ((ra_st (ra_cp (ra_cp (ra_cp (ra_cp (ra_cp (ra_cp w (b1 + 1) 0 (b0 + 1) 0 7) (b1 + 2) 0 (b0 + 2) 0 7) (b1 + 3) 0 (b0 + 3) 0 7) (b1 + 4) 0 (b0 + 4) 0 7) (b1 + 5) 0 (b0 + 5) 0 7) (b1 + 6) 0 (b0 + 6) 0 2) b0 6 ((ra_cp (ra_cp (ra_cp (ra_cp (ra_cp (ra_cp w (b1 + 1) 0 (b0 + 1) 0 7) (b1 + 2) 0 (b0 + 2) 0 7) (b1 + 3) 0 (b0 + 3) 0 7) (b1 + 4) 0 (b0 + 4) 0 7) (b1 + 5) 0 (b0 + 5) 0 7) (b1 + 6) 0 (b0 + 6) 0 2) b1 6)) b1 7)) b0 8 ((ra_st (ra_st (ra_cp (ra_cp (ra_cp (ra_cp (ra_cp (ra_cp w (b1 + 1) 0 (b0 + 1) 0 7) (b1 + 2) 0 (b0 + 2) 0 7) (b1 + 3) 0 (b0 + 3) 0 7) (b1 + 4) 0 (b0 + 4) 0 7) (b1 + 5) 0 (b0 + 5) 0 7) (b1 + 6) 0 (b0 + 6) 0 2) b0 6 ((ra_cp (ra_cp (ra_cp (ra_cp (ra_cp (ra_cp w (b1 + 1) 0 (b0 + 1) 0 7) (b1 + 2) 0 (b0 + 2) 0 7) (b1 + 3) 0 (b0 + 3) 0 7) (b1 + 4) 0 (b0 + 4) 0 7) (b1 + 5) 0 (b0 + 5) 0 7) (b1 + 6) 0 (b0 + 6) 0 2) b1 6)) b0 7 ((ra_st (ra_cp (ra_cp (ra_cp (ra_cp (ra_cp (ra_cp w (b1 + 1) 0 (b0 + 1) 0 7) (b1 + 2) 0 (b0 + 2) 0 7) (b1 + 3) 0 (b0 + 3) 0 7) (b1 + 4) 0 (b0 + 4) 0 7) (b1 + 5) 0 (b0 + 5) 0 7) (b1 + 6) 0 (b0 + 6) 0 2) b0 6 ((ra_cp (ra_cp (ra_cp (ra_cp (ra_cp (ra_cp w (b1 + 1) 0 (b0 + 1) 0 7) (b1 + 2) 0 (b0 + 2) 0 7) (b1 + 3) 0 (b0 + 3) 0 7) (b1 + 4) 0 (b0 + 4) 0 7) (b1 + 5) 0 (b0 + 5) 0 7) (b1 + 6) 0 (b0 + 6) 0 2) b1 6)) b1 7)) b1 8)) b0 9 ((ra_st (ra_st (ra_st (ra_cp (ra_cp (ra_cp (ra_cp (ra_cp (ra_cp w (b1 + 1) 0 (b0 + 1) 0 7) (b1 + 2) 0 (b0 + 2) 0 7) (b1 + 3) 0 (b0 + 3) 0 7) (b1 + 4) 0 (b0 + 4) 0 7) (b1 + 5) 0 (b0 + 5) 0 7) (b1 + 6) 0 (b0 + 6) 0 2) b0 6 ((ra_cp (ra_cp (ra_cp (ra_cp (ra_cp (ra_cp w (b1 + 1) 0 (b0 + 1) 0 7) (b1 + 2) 0 (b0 + 2) 0 7) (b1 + 3) 0 (b0 + 3) 0 7) (b1 + 4) 0 (b0 + 4) 0 7) (b1 + 5) 0 (b0 + 5) 0 7) (b1 + 6) 0 (b0 + 6) 0 2) b1 6)) b0 7 ((ra_st (ra_cp (ra_cp (ra_cp (ra_cp (ra_cp (ra_cp w (b1 + 1) 0 (b0 + 1) 0 7) (b1 + 2) 0 (b0 + 2) 0 7) (b1 + 3) 0 (b0 + 3) 0 7) (b1 + 4) 0 (b0 + 4) 0 7) (b1 + 5) 0 (b0 + 5) 0 7) (b1 + 6) 0 (b0 + 6) 0 2) b0 6 ((ra_cp (ra_cp (ra_cp (ra_cp (ra_cp (ra_cp w (b1 + 1) 0 (b0 + 1) 0 7) (b1 + 2) 0 (b0 + 2) 0 7) (b1 + 3) 0 (b0 + 3) 0 7) (b1 + 4) 0 (b0 + 4) 0 7) (b1 + 5) 0 (b0 + 5) 0 7) (b1 + 6) 0 (b0 + 6) 0 2) b1 6)) b1 7)) b0 8 ((ra_st (ra_st (ra_cp (ra_cp (ra_cp (ra_cp (ra_cp (ra_cp w (b1 + 1) 0 (b0 + 1) 0 7) (b1 + 2) 0 (b0 + 2) 0 7) (b1 + 3) 0 (b0 + 3) 0 7) (b1 + 4) 0 (b0 + 4) 0 7) (b1 + 5) 0 (b0 + 5) 0 7) (b1 + 6) 0 (b0 + 6) 0 2) b0 6 ((ra_cp (ra_cp (ra_cp (ra_cp (ra_cp (ra_cp w (b1 + 1) 0 (b0 + 1) 0 7) (b1 + 2) 0 (b0 + 2) 0 7) (b1 + 3) 0 (b0 + 3) 0 7) (b1 + 4) 0 (b0 + 4) 0 7) (b1 + 5) 0 (b0 + 5) 0 7) (b1 + 6) 0 (b0 + 6) 0 2) b1 6)) b0 7 ((ra_st (ra_cp (ra_cp (ra_cp (ra_cp (ra_cp (ra_cp w (b1 + 1) 0 (b0 + 1) 0 7) (b1 + 2) 0 (b0 + 2) 0 7) (b1 + 3) 0 (b0 + 3) 0 7) (b1 + 4) 0 (b0 + 4) 0 7) (b1 + 5) 0 (b0 + 5) 0 7) (b1 + 6) 0 (b0 + 6) 0 2) b0 6 ((ra_cp (ra_cp (ra_cp (ra_cp (ra_cp (ra_cp w (b1 + 1) 0 (b0 + 1) 0 7) (b1 + 2) 0 (b0 + 2) 0 7) (b1 + 3) 0 (b0 + 3) 0 7) (b1 + 4) 0 (b0 + 4) 0 7) (b1 + 5) 0 (b0 + 5) 0 7) (b1 + 6) 0 (b0 + 6) 0 2) b1 6)) b1 7)) b1 8)) b1 9)))) := rfl
def FX4_copy (k : Nat) (b0 : Nat) (b1 : Nat)  (w : ra_W) : Option (Int32 × ra_W) := fX4_copy k b0 b1 k 0  w
def pX4_copy_0 (Z : ra_Z) (r : Int32) (w1 : ra_W) (k : Nat) (b0 : Nat) (b1 : Nat) (n : Nat) : Prop := ∀  (w : ra_W), fX4_copy k b0 b1 n 0  w = some (r, w1) → ra_J Z 2 0 [(0, .ref ((zG Z).1 b0)), (1, .ref ((zG Z).1 b1))] [] w
set_option maxHeartbeats 4000000 in
theorem tX4_copy_0 {Z : ra_Z} {r : Int32} {w1 : ra_W} (C : ra_C Z cX4_copy 2 RX4 1 30) (hQ : ra_QV Z r w1) (hr : (zmt Z).sig.returnType = none) (k : Nat) (b0 : Nat) (b1 : Nat) (h0 : ra_S b0) (h1 : ra_S b1) (n : Nat) : pX4_copy_0 Z r w1 k b0 b1 (n + 1) := by
  intro w hf
  rw [fX4_copy_0] at hf
  refine rg_aload_n (pc := 0) C 1 rfl rfl dX4_copy_0 ?_
  refine rg_get (pc := 1) C b1 4 0 h1.1 (by decide) rfl inlX4 (by decide) wd_130 rfl dX4_copy_1 ?_
  refine rg_iconst (pc := 4) (v := 0) C dX4_copy_4 (by decide) ?_
  refine rg_aload_n (pc := 5) C 0 rfl rfl dX4_copy_5 ?_
  refine rg_get (pc := 6) C b0 4 0 h0.1 (by decide) rfl inlX4 (by decide) wd_130 rfl dX4_copy_6 ?_
  refine rg_iconst (pc := 9) (v := 0) C dX4_copy_9 (by decide) ?_
  refine rg_bipush (pc := 10) (v := 7) C dX4_copy_10 (by decide) ?_
  refine rg_copy (pc := 12) (s0 := 0) (d0 := 0) (m0 := 7) C wd_347 wd_318 wd_317 wd_9 (b1 + 1) (b0 + 1) h1.2.1 h0.2.1 (by decide) (by decide) (by decide) (by decide) (by decide) (by decide) (by decide) (by decide) (by decide) (Nat.le_of_ble_eq_true rfl) dX4_copy_12 ?_
  refine rg_aload_n (pc := 15) C 1 rfl rfl dX4_copy_15 ?_
  refine rg_get (pc := 16) C b1 4 1 h1.1 (by decide) rfl inlX4 (by decide) wd_133 rfl dX4_copy_16 ?_
  refine rg_iconst (pc := 19) (v := 0) C dX4_copy_19 (by decide) ?_
  refine rg_aload_n (pc := 20) C 0 rfl rfl dX4_copy_20 ?_
  refine rg_get (pc := 21) C b0 4 1 h0.1 (by decide) rfl inlX4 (by decide) wd_133 rfl dX4_copy_21 ?_
  refine rg_iconst (pc := 24) (v := 0) C dX4_copy_24 (by decide) ?_
  refine rg_bipush (pc := 25) (v := 7) C dX4_copy_25 (by decide) ?_
  refine rg_copy (pc := 27) (s0 := 0) (d0 := 0) (m0 := 7) C wd_347 wd_318 wd_317 wd_9 (b1 + 2) (b0 + 2) h1.2.2.1 h0.2.2.1 (by decide) (by decide) (by decide) (by decide) (by decide) (by decide) (by decide) (by decide) (by decide) (Nat.le_of_ble_eq_true rfl) dX4_copy_27 ?_
  refine rg_aload_n (pc := 30) C 1 rfl rfl dX4_copy_30 ?_
  refine rg_get (pc := 31) C b1 4 2 h1.1 (by decide) rfl inlX4 (by decide) wd_136 rfl dX4_copy_31 ?_
  refine rg_iconst (pc := 34) (v := 0) C dX4_copy_34 (by decide) ?_
  refine rg_aload_n (pc := 35) C 0 rfl rfl dX4_copy_35 ?_
  refine rg_get (pc := 36) C b0 4 2 h0.1 (by decide) rfl inlX4 (by decide) wd_136 rfl dX4_copy_36 ?_
  refine rg_iconst (pc := 39) (v := 0) C dX4_copy_39 (by decide) ?_
  refine rg_bipush (pc := 40) (v := 7) C dX4_copy_40 (by decide) ?_
  refine rg_copy (pc := 42) (s0 := 0) (d0 := 0) (m0 := 7) C wd_347 wd_318 wd_317 wd_9 (b1 + 3) (b0 + 3) h1.2.2.2.1 h0.2.2.2.1 (by decide) (by decide) (by decide) (by decide) (by decide) (by decide) (by decide) (by decide) (by decide) (Nat.le_of_ble_eq_true rfl) dX4_copy_42 ?_
  refine rg_aload_n (pc := 45) C 1 rfl rfl dX4_copy_45 ?_
  refine rg_get (pc := 46) C b1 4 3 h1.1 (by decide) rfl inlX4 (by decide) wd_139 rfl dX4_copy_46 ?_
  refine rg_iconst (pc := 49) (v := 0) C dX4_copy_49 (by decide) ?_
  refine rg_aload_n (pc := 50) C 0 rfl rfl dX4_copy_50 ?_
  refine rg_get (pc := 51) C b0 4 3 h0.1 (by decide) rfl inlX4 (by decide) wd_139 rfl dX4_copy_51 ?_
  refine rg_iconst (pc := 54) (v := 0) C dX4_copy_54 (by decide) ?_
  refine rg_bipush (pc := 55) (v := 7) C dX4_copy_55 (by decide) ?_
  refine rg_copy (pc := 57) (s0 := 0) (d0 := 0) (m0 := 7) C wd_347 wd_318 wd_317 wd_9 (b1 + 4) (b0 + 4) h1.2.2.2.2.1 h0.2.2.2.2.1 (by decide) (by decide) (by decide) (by decide) (by decide) (by decide) (by decide) (by decide) (by decide) (Nat.le_of_ble_eq_true rfl) dX4_copy_57 ?_
  refine rg_aload_n (pc := 60) C 1 rfl rfl dX4_copy_60 ?_
  refine rg_get (pc := 61) C b1 4 4 h1.1 (by decide) rfl inlX4 (by decide) wd_142 rfl dX4_copy_61 ?_
  refine rg_iconst (pc := 64) (v := 0) C dX4_copy_64 (by decide) ?_
  refine rg_aload_n (pc := 65) C 0 rfl rfl dX4_copy_65 ?_
  refine rg_get (pc := 66) C b0 4 4 h0.1 (by decide) rfl inlX4 (by decide) wd_142 rfl dX4_copy_66 ?_
  refine rg_iconst (pc := 69) (v := 0) C dX4_copy_69 (by decide) ?_
  refine rg_bipush (pc := 70) (v := 7) C dX4_copy_70 (by decide) ?_
  refine rg_copy (pc := 72) (s0 := 0) (d0 := 0) (m0 := 7) C wd_347 wd_318 wd_317 wd_9 (b1 + 5) (b0 + 5) h1.2.2.2.2.2.1 h0.2.2.2.2.2.1 (by decide) (by decide) (by decide) (by decide) (by decide) (by decide) (by decide) (by decide) (by decide) (Nat.le_of_ble_eq_true rfl) dX4_copy_72 ?_
  refine rg_aload_n (pc := 75) C 1 rfl rfl dX4_copy_75 ?_
  refine rg_get (pc := 76) C b1 4 5 h1.1 (by decide) rfl inlX4 (by decide) wd_145 rfl dX4_copy_76 ?_
  refine rg_iconst (pc := 79) (v := 0) C dX4_copy_79 (by decide) ?_
  refine rg_aload_n (pc := 80) C 0 rfl rfl dX4_copy_80 ?_
  refine rg_get (pc := 81) C b0 4 5 h0.1 (by decide) rfl inlX4 (by decide) wd_145 rfl dX4_copy_81 ?_
  refine rg_iconst (pc := 84) (v := 0) C dX4_copy_84 (by decide) ?_
  refine rg_iconst (pc := 85) (v := 2) C dX4_copy_85 (by decide) ?_
  refine rg_copy (pc := 86) (s0 := 0) (d0 := 0) (m0 := 2) C wd_347 wd_318 wd_317 wd_9 (b1 + 6) (b0 + 6) h1.2.2.2.2.2.2 h0.2.2.2.2.2.2 (by decide) (by decide) (by decide) (by decide) (by decide) (by decide) (by decide) (by decide) (by decide) (Nat.le_of_ble_eq_true rfl) dX4_copy_86 ?_
  refine rg_aload_n (pc := 89) C 0 rfl rfl dX4_copy_89 ?_
  refine rg_aload_n (pc := 90) C 1 rfl rfl dX4_copy_90 ?_
  refine rg_get (pc := 91) C b1 4 6 h1.1 (by decide) rfl inlX4 (by decide) wd_148 rfl dX4_copy_91 ?_
  refine rg_put (pc := 94) C b0 4 6 h0.1 (by decide) rfl inlX4 tyX4 tyX4_ok nmX4 (by decide) wd_148 rfl rfl rfl (Nat.le_of_ble_eq_true rfl) rfl dX4_copy_94 ?_
  refine rg_aload_n (pc := 97) C 0 rfl rfl dX4_copy_97 ?_
  refine rg_aload_n (pc := 98) C 1 rfl rfl dX4_copy_98 ?_
  refine rg_get (pc := 99) C b1 4 7 h1.1 (by decide) rfl inlX4 (by decide) wd_151 rfl dX4_copy_99 ?_
  refine rg_put (pc := 102) C b0 4 7 h0.1 (by decide) rfl inlX4 tyX4 tyX4_ok nmX4 (by decide) wd_151 rfl rfl rfl (Nat.le_of_ble_eq_true rfl) rfl dX4_copy_102 ?_
  refine rg_aload_n (pc := 105) C 0 rfl rfl dX4_copy_105 ?_
  refine rg_aload_n (pc := 106) C 1 rfl rfl dX4_copy_106 ?_
  refine rg_get (pc := 107) C b1 4 8 h1.1 (by decide) rfl inlX4 (by decide) wd_154 rfl dX4_copy_107 ?_
  refine rg_put (pc := 110) C b0 4 8 h0.1 (by decide) rfl inlX4 tyX4 tyX4_ok nmX4 (by decide) wd_154 rfl rfl rfl (Nat.le_of_ble_eq_true rfl) rfl dX4_copy_110 ?_
  refine rg_aload_n (pc := 113) C 0 rfl rfl dX4_copy_113 ?_
  refine rg_aload_n (pc := 114) C 1 rfl rfl dX4_copy_114 ?_
  refine rg_get (pc := 115) C b1 4 9 h1.1 (by decide) rfl inlX4 (by decide) wd_157 rfl dX4_copy_115 ?_
  refine rg_put (pc := 118) C b0 4 9 h0.1 (by decide) rfl inlX4 tyX4 tyX4_ok nmX4 (by decide) wd_157 rfl rfl rfl (Nat.le_of_ble_eq_true rfl) rfl dX4_copy_118 ?_
  exact rg_vret (pc := 121) C hQ hr hf dX4_copy_121
theorem tX4_copy {Z : ra_Z} {r : Int32} {w1 : ra_W} (C : ra_C Z cX4_copy 2 RX4 1 30) (hQ : ra_QV Z r w1) (hr : (zmt Z).sig.returnType = none) (k : Nat) (b0 : Nat) (b1 : Nat) (h0 : ra_S b0) (h1 : ra_S b1) : ∀ n : Nat, pX4_copy_0 Z r w1 k b0 b1 n := by
  intro n
  induction n with
  | zero => exact (fun _ h => by cases h)
  | succ n ih => exact tX4_copy_0 C hQ hr k b0 b1 h0 h1 n
theorem kX4_copy (l : Launch) (G : ra_G) (hj : ra_inj G) (k : Nat) (b0 : Nat) (b1 : Nat) (h0 : ra_S b0) (h1 : ra_S b1)  (w : ra_W) (r : Int32) (w1 : ra_W) (h : FX4_copy k b0 b1  w = some (r, w1)) : ra_MV l G yX4_copy cX4_copy 2 none 1 30 [.ref (G.1 b0), .ref (G.1 b1)] w r w1 :=
  ra_entryV (own := RX4) (by decide) rfl (Nat.le_of_ble_eq_true rfl) hj (fun Z hl hG C hQ hr => by subst hl; subst hG; exact (tX4_copy C hQ hr k b0 b1 h0 h1 k) _ h)
theorem ysX4_copy : ra_YV yX4_copy cX4_copy 2 none 1 RX4 := ⟨⟨wd_5, wd_346, by decide, by decide, by decide⟩, wd_344, wd_345⟩
/-- TrunkRadio$History.record -/
def fX1_record (k : Nat) (b1 : Nat) : Nat → Nat → ra_W → Option (Int32 × ra_W)
  | 0, _, _ => none
  | n + 1, L, w => match L with
    | _ => if ra_in (w 30 2) 12 then ra_bind (FX4_copy k (ra_rs 31 (ra_ix (w 30 2))) b1 w) (fun _ w3 => some (0, (ra_st (ra_st w3 30 2 (((w3 30 2) + 1) - ((w3 30 2) + 1) / 12 * 12)) 30 0 (if (((ra_st w3 30 2 (((w3 30 2) + 1) - ((w3 30 2) + 1) / 12 * 12)) 30 0) + 1) < 12 then (((ra_st w3 30 2 (((w3 30 2) + 1) - ((w3 30 2) + 1) / 12 * 12)) 30 0) + 1) else 12)))) else none
theorem fX1_record_0 (k : Nat) (b1 : Nat) (n : Nat)  (w : ra_W) : fX1_record k b1 (n + 1) 0  w = (if ra_in (w 30 2) 12 then ra_bind (FX4_copy k (ra_rs 31 (ra_ix (w 30 2))) b1 w) (fun _ w3 => some (0, (ra_st (ra_st w3 30 2 (((w3 30 2) + 1) - ((w3 30 2) + 1) / 12 * 12)) 30 0 (if (((ra_st w3 30 2 (((w3 30 2) + 1) - ((w3 30 2) + 1) / 12 * 12)) 30 0) + 1) < 12 then (((ra_st w3 30 2 (((w3 30 2) + 1) - ((w3 30 2) + 1) / 12 * 12)) 30 0) + 1) else 12)))) else none) := rfl
def FX1_record (k : Nat) (b1 : Nat)  (w : ra_W) : Option (Int32 × ra_W) := fX1_record k b1 k 0  w
def pX1_record_0 (Z : ra_Z) (r : Int32) (w1 : ra_W) (k : Nat) (b1 : Nat) (n : Nat) : Prop := ∀  (w : ra_W), fX1_record k b1 n 0  w = some (r, w1) → ra_J Z 2 0 [(0, .ref ((zG Z).1 30)), (1, .ref ((zG Z).1 b1))] [] w
set_option maxHeartbeats 4000000 in
theorem tX1_record_0 {Z : ra_Z} {r : Int32} {w1 : ra_W} (C : ra_C Z cX1_record 2 RX1 2 51) (hQ : ra_QV Z r w1) (hr : (zmt Z).sig.returnType = none) (k : Nat) (b1 : Nat) (h1 : ra_S b1) (n : Nat) : pX1_record_0 Z r w1 k b1 (n + 1) := by
  intro w hf
  rw [fX1_record_0] at hf
  refine rg_aload_n (pc := 0) C 0 rfl rfl dX1_record_0 ?_
  refine rg_get (pc := 1) C 30 1 1 kd_30 (by decide) rfl inlX1 (by decide) wd_192 rfl dX1_record_1 ?_
  refine rg_aload_n (pc := 4) C 0 rfl rfl dX1_record_4 ?_
  refine rg_get (pc := 5) C 30 1 2 kd_30 (by decide) rfl inlX1 (by decide) wd_193 rfl dX1_record_5 ?_
  obtain ⟨g1, hf⟩ := ra_gd hf
  refine rg_aald (pc := 8) C 31 kd_31 g1 dX1_record_8 ?_
  refine rg_aload_n (pc := 9) C 1 rfl rfl dX1_record_9 ?_
  obtain ⟨r2, w3, e4, hf⟩ := ra_bd hf
  refine rg_callVV (pc := 10) (As := [.ref ((zG Z).1 b1)]) (st := []) C (kX4_copy (zl Z) (zG Z) C.hj k (ra_rs 31 (ra_ix (w 30 2))) b1 (ra_S31 g1) h1 _ _ _ e4) ((ra_S31 g1).1) (by decide) rfl ysX4_copy rfl wd_343 ⟨Nat.le_of_ble_eq_true rfl, Nat.le_of_ble_eq_true rfl⟩ rfl (Nat.le_of_ble_eq_true rfl) dX1_record_10 ?_
  refine rg_aload_n (pc := 13) C 0 rfl rfl dX1_record_13 ?_
  refine rg_aload_n (pc := 14) C 0 rfl rfl dX1_record_14 ?_
  refine rg_get (pc := 15) C 30 1 2 kd_30 (by decide) rfl inlX1 (by decide) wd_193 rfl dX1_record_15 ?_
  refine rg_iconst (pc := 18) (v := 1) C dX1_record_18 (by decide) ?_
  refine rg_iadd (pc := 19) C dX1_record_19 ?_
  refine rg_bipush (pc := 20) (v := 12) C dX1_record_20 (by decide) ?_
  refine rg_irem (pc := 22) C (by decide) dX1_record_22 ?_
  refine rg_put (pc := 23) C 30 1 2 kd_30 (by decide) rfl inlX1 tyX1 tyX1_ok nmX1 (by decide) wd_193 rfl rfl rfl (Nat.le_of_ble_eq_true rfl) rfl dX1_record_23 ?_
  refine rg_aload_n (pc := 26) C 0 rfl rfl dX1_record_26 ?_
  refine rg_bipush (pc := 27) (v := 12) C dX1_record_27 (by decide) ?_
  refine rg_aload_n (pc := 29) C 0 rfl rfl dX1_record_29 ?_
  refine rg_get (pc := 30) C 30 1 0 kd_30 (by decide) rfl inlX1 (by decide) wd_190 rfl dX1_record_30 ?_
  refine rg_iconst (pc := 33) (v := 1) C dX1_record_33 (by decide) ?_
  refine rg_iadd (pc := 34) C dX1_record_34 ?_
  refine rg_min (pc := 35) C wd_348 wd_282 wd_8 wd_283 (by decide) (Nat.le_of_ble_eq_true rfl) dX1_record_35 ?_
  refine rg_put (pc := 38) C 30 1 0 kd_30 (by decide) rfl inlX1 tyX1 tyX1_ok nmX1 (by decide) wd_190 rfl rfl rfl (Nat.le_of_ble_eq_true rfl) rfl dX1_record_38 ?_
  exact rg_vret (pc := 41) C hQ hr hf dX1_record_41
theorem tX1_record {Z : ra_Z} {r : Int32} {w1 : ra_W} (C : ra_C Z cX1_record 2 RX1 2 51) (hQ : ra_QV Z r w1) (hr : (zmt Z).sig.returnType = none) (k : Nat) (b1 : Nat) (h1 : ra_S b1) : ∀ n : Nat, pX1_record_0 Z r w1 k b1 n := by
  intro n
  induction n with
  | zero => exact (fun _ h => by cases h)
  | succ n ih => exact tX1_record_0 C hQ hr k b1 h1 n
theorem kX1_record (l : Launch) (G : ra_G) (hj : ra_inj G) (k : Nat) (b1 : Nat) (h1 : ra_S b1)  (w : ra_W) (r : Int32) (w1 : ra_W) (h : FX1_record k b1  w = some (r, w1)) : ra_MV l G yX1_record cX1_record 2 none 2 51 [.ref (G.1 30), .ref (G.1 b1)] w r w1 :=
  ra_entryV (own := RX1) (by decide) rfl (Nat.le_of_ble_eq_true rfl) hj (fun Z hl hG C hQ hr => by subst hl; subst hG; exact (tX1_record C hQ hr k b1 h1 k) _ h)
theorem ysX1_record : ra_YV yX1_record cX1_record 2 none 1 RX1 := ⟨⟨wd_6, wd_342, by decide, by decide, by decide⟩, wd_340, wd_341⟩
/-- TrunkRadio$History.bringBack -/
def fX1_bringBack (k : Nat) (b1 : Nat) : Nat → Nat → ra_W → Option (Int32 × ra_W)
  | 0, _, _ => none
  | n + 1, L, w => match L with
    | _ => if 1 ≤ (w 30 0) then (if ra_in ((ra_st (ra_st w 30 0 ((w 30 0) - 1)) 30 2 (((((ra_st w 30 0 ((w 30 0) - 1)) 30 2) + 12) - 1) - ((((ra_st w 30 0 ((w 30 0) - 1)) 30 2) + 12) - 1) / 12 * 12)) 30 2) 12 then ra_bind (FX4_copy k b1 (ra_rs 31 (ra_ix ((ra_st (ra_st w 30 0 ((w 30 0) - 1)) 30 2 (((((ra_st w 30 0 ((w 30 0) - 1)) 30 2) + 12) - 1) - ((((ra_st w 30 0 ((w 30 0) - 1)) 30 2) + 12) - 1) / 12 * 12)) 30 2))) (ra_st (ra_st w 30 0 ((w 30 0) - 1)) 30 2 (((((ra_st w 30 0 ((w 30 0) - 1)) 30 2) + 12) - 1) - ((((ra_st w 30 0 ((w 30 0) - 1)) 30 2) + 12) - 1) / 12 * 12))) (fun _ w4 => some (1, w4)) else none) else (some (0, w))
theorem fX1_bringBack_0 (k : Nat) (b1 : Nat) (n : Nat)  (w : ra_W) : fX1_bringBack k b1 (n + 1) 0  w = (if 1 ≤ (w 30 0) then (if ra_in ((ra_st (ra_st w 30 0 ((w 30 0) - 1)) 30 2 (((((ra_st w 30 0 ((w 30 0) - 1)) 30 2) + 12) - 1) - ((((ra_st w 30 0 ((w 30 0) - 1)) 30 2) + 12) - 1) / 12 * 12)) 30 2) 12 then ra_bind (FX4_copy k b1 (ra_rs 31 (ra_ix ((ra_st (ra_st w 30 0 ((w 30 0) - 1)) 30 2 (((((ra_st w 30 0 ((w 30 0) - 1)) 30 2) + 12) - 1) - ((((ra_st w 30 0 ((w 30 0) - 1)) 30 2) + 12) - 1) / 12 * 12)) 30 2))) (ra_st (ra_st w 30 0 ((w 30 0) - 1)) 30 2 (((((ra_st w 30 0 ((w 30 0) - 1)) 30 2) + 12) - 1) - ((((ra_st w 30 0 ((w 30 0) - 1)) 30 2) + 12) - 1) / 12 * 12))) (fun _ w4 => some (1, w4)) else none) else (some (0, w))) := rfl
def FX1_bringBack (k : Nat) (b1 : Nat)  (w : ra_W) : Option (Int32 × ra_W) := fX1_bringBack k b1 k 0  w
def pX1_bringBack_0 (Z : ra_Z) (r : Int32) (w1 : ra_W) (k : Nat) (b1 : Nat) (n : Nat) : Prop := ∀  (w : ra_W), fX1_bringBack k b1 n 0  w = some (r, w1) → ra_J Z 2 0 [(0, .ref ((zG Z).1 30)), (1, .ref ((zG Z).1 b1))] [] w
set_option maxHeartbeats 4000000 in
theorem tX1_bringBack_0 {Z : ra_Z} {r : Int32} {w1 : ra_W} (C : ra_C Z cX1_bringBack 2 RX1 2 51) (hQ : ra_QI Z r w1) (hr : (zmt Z).sig.returnType = (some .boolean)) (k : Nat) (b1 : Nat) (h1 : ra_S b1) (n : Nat) : pX1_bringBack_0 Z r w1 k b1 (n + 1) := by
  intro w hf
  rw [fX1_bringBack_0] at hf
  refine rg_aload_n (pc := 0) C 0 rfl rfl dX1_bringBack_0 ?_
  refine rg_get (pc := 1) C 30 1 0 kd_30 (by decide) rfl inlX1 (by decide) wd_190 rfl dX1_bringBack_1 ?_
  refine rg_iconst (pc := 4) (v := 1) C dX1_bringBack_4 (by decide) ?_
  refine rg_icmp_ge (pc := 5) (tgt := 10) C dX1_bringBack_5 (by decide) (fun c1 => ?_) (fun c1 => ?_)
  · replace hf := ra_t hf c1
    refine rg_aload_n (pc := 10) C 0 rfl rfl dX1_bringBack_10 ?_
    refine rg_dup (pc := 11) C rfl dX1_bringBack_11 ?_
    refine rg_get (pc := 12) C 30 1 0 kd_30 (by decide) rfl inlX1 (by decide) wd_190 rfl dX1_bringBack_12 ?_
    refine rg_iconst (pc := 15) (v := 1) C dX1_bringBack_15 (by decide) ?_
    refine rg_isub (pc := 16) C dX1_bringBack_16 ?_
    refine rg_put (pc := 17) C 30 1 0 kd_30 (by decide) rfl inlX1 tyX1 tyX1_ok nmX1 (by decide) wd_190 rfl rfl rfl (Nat.le_of_ble_eq_true rfl) rfl dX1_bringBack_17 ?_
    refine rg_aload_n (pc := 20) C 0 rfl rfl dX1_bringBack_20 ?_
    refine rg_aload_n (pc := 21) C 0 rfl rfl dX1_bringBack_21 ?_
    refine rg_get (pc := 22) C 30 1 2 kd_30 (by decide) rfl inlX1 (by decide) wd_193 rfl dX1_bringBack_22 ?_
    refine rg_bipush (pc := 25) (v := 12) C dX1_bringBack_25 (by decide) ?_
    refine rg_iadd (pc := 27) C dX1_bringBack_27 ?_
    refine rg_iconst (pc := 28) (v := 1) C dX1_bringBack_28 (by decide) ?_
    refine rg_isub (pc := 29) C dX1_bringBack_29 ?_
    refine rg_bipush (pc := 30) (v := 12) C dX1_bringBack_30 (by decide) ?_
    refine rg_irem (pc := 32) C (by decide) dX1_bringBack_32 ?_
    refine rg_put (pc := 33) C 30 1 2 kd_30 (by decide) rfl inlX1 tyX1 tyX1_ok nmX1 (by decide) wd_193 rfl rfl rfl (Nat.le_of_ble_eq_true rfl) rfl dX1_bringBack_33 ?_
    refine rg_aload_n (pc := 36) C 1 rfl rfl dX1_bringBack_36 ?_
    refine rg_aload_n (pc := 37) C 0 rfl rfl dX1_bringBack_37 ?_
    refine rg_get (pc := 38) C 30 1 1 kd_30 (by decide) rfl inlX1 (by decide) wd_192 rfl dX1_bringBack_38 ?_
    refine rg_aload_n (pc := 41) C 0 rfl rfl dX1_bringBack_41 ?_
    refine rg_get (pc := 42) C 30 1 2 kd_30 (by decide) rfl inlX1 (by decide) wd_193 rfl dX1_bringBack_42 ?_
    obtain ⟨g2, hf⟩ := ra_gd hf
    refine rg_aald (pc := 45) C 31 kd_31 g2 dX1_bringBack_45 ?_
    obtain ⟨r3, w4, e5, hf⟩ := ra_bd hf
    refine rg_callVV (pc := 46) (As := [.ref ((zG Z).1 (ra_rs 31 (ra_ix ((ra_st (ra_st w 30 0 ((w 30 0) - 1)) 30 2 (((((ra_st w 30 0 ((w 30 0) - 1)) 30 2) + 12) - 1) - ((((ra_st w 30 0 ((w 30 0) - 1)) 30 2) + 12) - 1) / 12 * 12)) 30 2))))]) (st := []) C (kX4_copy (zl Z) (zG Z) C.hj k b1 (ra_rs 31 (ra_ix ((ra_st (ra_st w 30 0 ((w 30 0) - 1)) 30 2 (((((ra_st w 30 0 ((w 30 0) - 1)) 30 2) + 12) - 1) - ((((ra_st w 30 0 ((w 30 0) - 1)) 30 2) + 12) - 1) / 12 * 12)) 30 2))) h1 (ra_S31 g2) _ _ _ e5) h1.1 (by decide) rfl ysX4_copy rfl wd_343 ⟨Nat.le_of_ble_eq_true rfl, Nat.le_of_ble_eq_true rfl⟩ rfl (Nat.le_of_ble_eq_true rfl) dX1_bringBack_46 ?_
    refine rg_iconst (pc := 49) (v := 1) C dX1_bringBack_49 (by decide) ?_
    exact rg_zret (pc := 50) C hQ hr (by decide) hf dX1_bringBack_50
  · replace hf := ra_f hf c1
    refine rg_iconst (pc := 8) (v := 0) C dX1_bringBack_8 (by decide) ?_
    exact rg_zret (pc := 9) C hQ hr (by decide) hf dX1_bringBack_9
theorem tX1_bringBack {Z : ra_Z} {r : Int32} {w1 : ra_W} (C : ra_C Z cX1_bringBack 2 RX1 2 51) (hQ : ra_QI Z r w1) (hr : (zmt Z).sig.returnType = (some .boolean)) (k : Nat) (b1 : Nat) (h1 : ra_S b1) : ∀ n : Nat, pX1_bringBack_0 Z r w1 k b1 n := by
  intro n
  induction n with
  | zero => exact (fun _ h => by cases h)
  | succ n ih => exact tX1_bringBack_0 C hQ hr k b1 h1 n
theorem kX1_bringBack (l : Launch) (G : ra_G) (hj : ra_inj G) (k : Nat) (b1 : Nat) (h1 : ra_S b1)  (w : ra_W) (r : Int32) (w1 : ra_W) (h : FX1_bringBack k b1  w = some (r, w1)) : ra_MI l G yX1_bringBack cX1_bringBack 2 (some .boolean) 2 51 [.ref (G.1 30), .ref (G.1 b1)] w r w1 :=
  ra_entryI (own := RX1) (by decide) rfl (Nat.le_of_ble_eq_true rfl) hj (fun Z hl hG C hQ hr => by subst hl; subst hG; exact (tX1_bringBack C hQ hr k b1 h1 k) _ h)
theorem ysX1_bringBack : ra_YV yX1_bringBack cX1_bringBack 2 (some .boolean) 1 RX1 := ⟨⟨wd_6, wd_457, by decide, by decide, by decide⟩, wd_455, wd_456⟩
/-- TrunkRadio$Net.beginAnew -/
def fX2_beginAnew (k : Nat) (b0 : Nat) : Nat → Nat → ra_W → Option (Int32 × ra_W)
  | 0, _, _ => none
  | n + 1, L, w => match L with
    | _ => some (0, (ra_st (ra_st (ra_st (ra_st (ra_st w b0 0 0) b0 1 4) b0 2 8) (b0 + 1) 0 2) (b0 + 1) 1 2))
theorem fX2_beginAnew_0 (k : Nat) (b0 : Nat) (n : Nat)  (w : ra_W) : fX2_beginAnew k b0 (n + 1) 0  w = (some (0, (ra_st (ra_st (ra_st (ra_st (ra_st w b0 0 0) b0 1 4) b0 2 8) (b0 + 1) 0 2) (b0 + 1) 1 2))) := rfl
def FX2_beginAnew (k : Nat) (b0 : Nat)  (w : ra_W) : Option (Int32 × ra_W) := fX2_beginAnew k b0 k 0  w
def pX2_beginAnew_0 (Z : ra_Z) (r : Int32) (w1 : ra_W) (k : Nat) (b0 : Nat) (n : Nat) : Prop := ∀  (w : ra_W), fX2_beginAnew k b0 n 0  w = some (r, w1) → ra_J Z 1 0 [(0, .ref ((zG Z).1 b0))] [] w
set_option maxHeartbeats 4000000 in
theorem tX2_beginAnew_0 {Z : ra_Z} {r : Int32} {w1 : ra_W} (C : ra_C Z cX2_beginAnew 1 RX2 0 0) (hQ : ra_QV Z r w1) (hr : (zmt Z).sig.returnType = none) (k : Nat) (b0 : Nat) (h0 : ra_N b0) (n : Nat) : pX2_beginAnew_0 Z r w1 k b0 (n + 1) := by
  intro w hf
  rw [fX2_beginAnew_0] at hf
  refine rg_aload_n (pc := 0) C 0 rfl rfl dX2_beginAnew_0 ?_
  refine rg_iconst (pc := 1) (v := 0) C dX2_beginAnew_1 (by decide) ?_
  refine rg_put (pc := 2) C b0 2 0 h0.1 (by decide) rfl inlX2 tyX2 tyX2_ok nmX2 (by decide) wd_65 rfl rfl rfl (Nat.le_of_ble_eq_true rfl) rfl dX2_beginAnew_2 ?_
  refine rg_aload_n (pc := 5) C 0 rfl rfl dX2_beginAnew_5 ?_
  refine rg_iconst (pc := 6) (v := 4) C dX2_beginAnew_6 (by decide) ?_
  refine rg_put (pc := 7) C b0 2 1 h0.1 (by decide) rfl inlX2 tyX2 tyX2_ok nmX2 (by decide) wd_70 rfl rfl rfl (Nat.le_of_ble_eq_true rfl) rfl dX2_beginAnew_7 ?_
  refine rg_aload_n (pc := 10) C 0 rfl rfl dX2_beginAnew_10 ?_
  refine rg_bipush (pc := 11) (v := 8) C dX2_beginAnew_11 (by decide) ?_
  refine rg_put (pc := 13) C b0 2 2 h0.1 (by decide) rfl inlX2 tyX2 tyX2_ok nmX2 (by decide) wd_74 rfl rfl rfl (Nat.le_of_ble_eq_true rfl) rfl dX2_beginAnew_13 ?_
  refine rg_aload_n (pc := 16) C 0 rfl rfl dX2_beginAnew_16 ?_
  refine rg_get (pc := 17) C b0 2 3 h0.1 (by decide) rfl inlX2 (by decide) wd_78 rfl dX2_beginAnew_17 ?_
  refine rg_iconst (pc := 20) (v := 0) C dX2_beginAnew_20 (by decide) ?_
  refine rg_iconst (pc := 21) (v := 2) C dX2_beginAnew_21 (by decide) ?_
  refine rg_iast (pc := 22) (j := 0) C (b0 + 1) h0.2.1 (by decide) (by decide) dX2_beginAnew_22 ?_
  refine rg_aload_n (pc := 23) C 0 rfl rfl dX2_beginAnew_23 ?_
  refine rg_get (pc := 24) C b0 2 3 h0.1 (by decide) rfl inlX2 (by decide) wd_78 rfl dX2_beginAnew_24 ?_
  refine rg_iconst (pc := 27) (v := 1) C dX2_beginAnew_27 (by decide) ?_
  refine rg_iconst (pc := 28) (v := 2) C dX2_beginAnew_28 (by decide) ?_
  refine rg_iast (pc := 29) (j := 1) C (b0 + 1) h0.2.1 (by decide) (by decide) dX2_beginAnew_29 ?_
  exact rg_vret (pc := 30) C hQ hr hf dX2_beginAnew_30
theorem tX2_beginAnew {Z : ra_Z} {r : Int32} {w1 : ra_W} (C : ra_C Z cX2_beginAnew 1 RX2 0 0) (hQ : ra_QV Z r w1) (hr : (zmt Z).sig.returnType = none) (k : Nat) (b0 : Nat) (h0 : ra_N b0) : ∀ n : Nat, pX2_beginAnew_0 Z r w1 k b0 n := by
  intro n
  induction n with
  | zero => exact (fun _ h => by cases h)
  | succ n ih => exact tX2_beginAnew_0 C hQ hr k b0 h0 n
theorem kX2_beginAnew (l : Launch) (G : ra_G) (hj : ra_inj G) (k : Nat) (b0 : Nat) (h0 : ra_N b0)  (w : ra_W) (r : Int32) (w1 : ra_W) (h : FX2_beginAnew k b0  w = some (r, w1)) : ra_MV l G yX2_beginAnew cX2_beginAnew 1 none 0 0 [.ref (G.1 b0)] w r w1 :=
  ra_entryV (own := RX2) (by decide) rfl (Nat.le_of_ble_eq_true rfl) hj (fun Z hl hG C hQ hr => by subst hl; subst hG; exact (tX2_beginAnew C hQ hr k b0 h0 k) _ h)
theorem ysX2_beginAnew : ra_YV yX2_beginAnew cX2_beginAnew 1 none 0 RX2 := ⟨⟨wd_3, wd_64, by decide, by decide, by decide⟩, wd_62, wd_63⟩
/-- TrunkRadio$Net.copy -/
def fX2_copy (k : Nat) (b0 : Nat) (b1 : Nat) : Nat → Nat → ra_W → Option (Int32 × ra_W)
  | 0, _, _ => none
  | n + 1, L, w => match L with
    | _ => some (0, (ra_cp (ra_cp (ra_cp (ra_cp (ra_st (ra_st (ra_st w b0 0 (w b1 0)) b0 1 ((ra_st w b0 0 (w b1 0)) b1 1)) b0 2 ((ra_st (ra_st w b0 0 (w b1 0)) b0 1 ((ra_st w b0 0 (w b1 0)) b1 1)) b1 2)) (b1 + 1) 0 (b0 + 1) 0 2) (b1 + 2) 0 (b0 + 2) 0 7) (b1 + 3) 0 (b0 + 3) 0 7) (b1 + 4) 0 (b0 + 4) 0 7))
theorem fX2_copy_0 (k : Nat) (b0 : Nat) (b1 : Nat) (n : Nat)  (w : ra_W) : fX2_copy k b0 b1 (n + 1) 0  w = (some (0, (ra_cp (ra_cp (ra_cp (ra_cp (ra_st (ra_st (ra_st w b0 0 (w b1 0)) b0 1 ((ra_st w b0 0 (w b1 0)) b1 1)) b0 2 ((ra_st (ra_st w b0 0 (w b1 0)) b0 1 ((ra_st w b0 0 (w b1 0)) b1 1)) b1 2)) (b1 + 1) 0 (b0 + 1) 0 2) (b1 + 2) 0 (b0 + 2) 0 7) (b1 + 3) 0 (b0 + 3) 0 7) (b1 + 4) 0 (b0 + 4) 0 7))) := rfl
def FX2_copy (k : Nat) (b0 : Nat) (b1 : Nat)  (w : ra_W) : Option (Int32 × ra_W) := fX2_copy k b0 b1 k 0  w
def pX2_copy_0 (Z : ra_Z) (r : Int32) (w1 : ra_W) (k : Nat) (b0 : Nat) (b1 : Nat) (n : Nat) : Prop := ∀  (w : ra_W), fX2_copy k b0 b1 n 0  w = some (r, w1) → ra_J Z 2 0 [(0, .ref ((zG Z).1 b0)), (1, .ref ((zG Z).1 b1))] [] w
set_option maxHeartbeats 4000000 in
theorem tX2_copy_0 {Z : ra_Z} {r : Int32} {w1 : ra_W} (C : ra_C Z cX2_copy 2 RX2 1 30) (hQ : ra_QV Z r w1) (hr : (zmt Z).sig.returnType = none) (k : Nat) (b0 : Nat) (b1 : Nat) (h0 : ra_N b0) (h1 : ra_N b1) (n : Nat) : pX2_copy_0 Z r w1 k b0 b1 (n + 1) := by
  intro w hf
  rw [fX2_copy_0] at hf
  refine rg_aload_n (pc := 0) C 0 rfl rfl dX2_copy_0 ?_
  refine rg_aload_n (pc := 1) C 1 rfl rfl dX2_copy_1 ?_
  refine rg_get (pc := 2) C b1 2 0 h1.1 (by decide) rfl inlX2 (by decide) wd_65 rfl dX2_copy_2 ?_
  refine rg_put (pc := 5) C b0 2 0 h0.1 (by decide) rfl inlX2 tyX2 tyX2_ok nmX2 (by decide) wd_65 rfl rfl rfl (Nat.le_of_ble_eq_true rfl) rfl dX2_copy_5 ?_
  refine rg_aload_n (pc := 8) C 0 rfl rfl dX2_copy_8 ?_
  refine rg_aload_n (pc := 9) C 1 rfl rfl dX2_copy_9 ?_
  refine rg_get (pc := 10) C b1 2 1 h1.1 (by decide) rfl inlX2 (by decide) wd_70 rfl dX2_copy_10 ?_
  refine rg_put (pc := 13) C b0 2 1 h0.1 (by decide) rfl inlX2 tyX2 tyX2_ok nmX2 (by decide) wd_70 rfl rfl rfl (Nat.le_of_ble_eq_true rfl) rfl dX2_copy_13 ?_
  refine rg_aload_n (pc := 16) C 0 rfl rfl dX2_copy_16 ?_
  refine rg_aload_n (pc := 17) C 1 rfl rfl dX2_copy_17 ?_
  refine rg_get (pc := 18) C b1 2 2 h1.1 (by decide) rfl inlX2 (by decide) wd_74 rfl dX2_copy_18 ?_
  refine rg_put (pc := 21) C b0 2 2 h0.1 (by decide) rfl inlX2 tyX2 tyX2_ok nmX2 (by decide) wd_74 rfl rfl rfl (Nat.le_of_ble_eq_true rfl) rfl dX2_copy_21 ?_
  refine rg_aload_n (pc := 24) C 1 rfl rfl dX2_copy_24 ?_
  refine rg_get (pc := 25) C b1 2 3 h1.1 (by decide) rfl inlX2 (by decide) wd_78 rfl dX2_copy_25 ?_
  refine rg_iconst (pc := 28) (v := 0) C dX2_copy_28 (by decide) ?_
  refine rg_aload_n (pc := 29) C 0 rfl rfl dX2_copy_29 ?_
  refine rg_get (pc := 30) C b0 2 3 h0.1 (by decide) rfl inlX2 (by decide) wd_78 rfl dX2_copy_30 ?_
  refine rg_iconst (pc := 33) (v := 0) C dX2_copy_33 (by decide) ?_
  refine rg_iconst (pc := 34) (v := 2) C dX2_copy_34 (by decide) ?_
  refine rg_copy (pc := 35) (s0 := 0) (d0 := 0) (m0 := 2) C wd_316 wd_318 wd_317 wd_9 (b1 + 1) (b0 + 1) h1.2.1 h0.2.1 (by decide) (by decide) (by decide) (by decide) (by decide) (by decide) (by decide) (by decide) (by decide) (Nat.le_of_ble_eq_true rfl) dX2_copy_35 ?_
  refine rg_aload_n (pc := 38) C 1 rfl rfl dX2_copy_38 ?_
  refine rg_get (pc := 39) C b1 2 4 h1.1 (by decide) rfl inlX2 (by decide) wd_83 rfl dX2_copy_39 ?_
  refine rg_iconst (pc := 42) (v := 0) C dX2_copy_42 (by decide) ?_
  refine rg_aload_n (pc := 43) C 0 rfl rfl dX2_copy_43 ?_
  refine rg_get (pc := 44) C b0 2 4 h0.1 (by decide) rfl inlX2 (by decide) wd_83 rfl dX2_copy_44 ?_
  refine rg_iconst (pc := 47) (v := 0) C dX2_copy_47 (by decide) ?_
  refine rg_bipush (pc := 48) (v := 7) C dX2_copy_48 (by decide) ?_
  refine rg_copy (pc := 50) (s0 := 0) (d0 := 0) (m0 := 7) C wd_316 wd_318 wd_317 wd_9 (b1 + 2) (b0 + 2) h1.2.2.1 h0.2.2.1 (by decide) (by decide) (by decide) (by decide) (by decide) (by decide) (by decide) (by decide) (by decide) (Nat.le_of_ble_eq_true rfl) dX2_copy_50 ?_
  refine rg_aload_n (pc := 53) C 1 rfl rfl dX2_copy_53 ?_
  refine rg_get (pc := 54) C b1 2 5 h1.1 (by decide) rfl inlX2 (by decide) wd_86 rfl dX2_copy_54 ?_
  refine rg_iconst (pc := 57) (v := 0) C dX2_copy_57 (by decide) ?_
  refine rg_aload_n (pc := 58) C 0 rfl rfl dX2_copy_58 ?_
  refine rg_get (pc := 59) C b0 2 5 h0.1 (by decide) rfl inlX2 (by decide) wd_86 rfl dX2_copy_59 ?_
  refine rg_iconst (pc := 62) (v := 0) C dX2_copy_62 (by decide) ?_
  refine rg_bipush (pc := 63) (v := 7) C dX2_copy_63 (by decide) ?_
  refine rg_copy (pc := 65) (s0 := 0) (d0 := 0) (m0 := 7) C wd_316 wd_318 wd_317 wd_9 (b1 + 3) (b0 + 3) h1.2.2.2.1 h0.2.2.2.1 (by decide) (by decide) (by decide) (by decide) (by decide) (by decide) (by decide) (by decide) (by decide) (Nat.le_of_ble_eq_true rfl) dX2_copy_65 ?_
  refine rg_aload_n (pc := 68) C 1 rfl rfl dX2_copy_68 ?_
  refine rg_get (pc := 69) C b1 2 6 h1.1 (by decide) rfl inlX2 (by decide) wd_91 rfl dX2_copy_69 ?_
  refine rg_iconst (pc := 72) (v := 0) C dX2_copy_72 (by decide) ?_
  refine rg_aload_n (pc := 73) C 0 rfl rfl dX2_copy_73 ?_
  refine rg_get (pc := 74) C b0 2 6 h0.1 (by decide) rfl inlX2 (by decide) wd_91 rfl dX2_copy_74 ?_
  refine rg_iconst (pc := 77) (v := 0) C dX2_copy_77 (by decide) ?_
  refine rg_bipush (pc := 78) (v := 7) C dX2_copy_78 (by decide) ?_
  refine rg_copy (pc := 80) (s0 := 0) (d0 := 0) (m0 := 7) C wd_316 wd_318 wd_317 wd_9 (b1 + 4) (b0 + 4) h1.2.2.2.2 h0.2.2.2.2 (by decide) (by decide) (by decide) (by decide) (by decide) (by decide) (by decide) (by decide) (by decide) (Nat.le_of_ble_eq_true rfl) dX2_copy_80 ?_
  exact rg_vret (pc := 83) C hQ hr hf dX2_copy_83
theorem tX2_copy {Z : ra_Z} {r : Int32} {w1 : ra_W} (C : ra_C Z cX2_copy 2 RX2 1 30) (hQ : ra_QV Z r w1) (hr : (zmt Z).sig.returnType = none) (k : Nat) (b0 : Nat) (b1 : Nat) (h0 : ra_N b0) (h1 : ra_N b1) : ∀ n : Nat, pX2_copy_0 Z r w1 k b0 b1 n := by
  intro n
  induction n with
  | zero => exact (fun _ h => by cases h)
  | succ n ih => exact tX2_copy_0 C hQ hr k b0 b1 h0 h1 n
theorem kX2_copy (l : Launch) (G : ra_G) (hj : ra_inj G) (k : Nat) (b0 : Nat) (b1 : Nat) (h0 : ra_N b0) (h1 : ra_N b1)  (w : ra_W) (r : Int32) (w1 : ra_W) (h : FX2_copy k b0 b1  w = some (r, w1)) : ra_MV l G yX2_copy cX2_copy 2 none 1 30 [.ref (G.1 b0), .ref (G.1 b1)] w r w1 :=
  ra_entryV (own := RX2) (by decide) rfl (Nat.le_of_ble_eq_true rfl) hj (fun Z hl hG C hQ hr => by subst hl; subst hG; exact (tX2_copy C hQ hr k b0 b1 h0 h1 k) _ h)
theorem ysX2_copy : ra_YV yX2_copy cX2_copy 2 none 1 RX2 := ⟨⟨wd_3, wd_315, by decide, by decide, by decide⟩, wd_313, wd_314⟩
/-- TrunkRadio$Net.has -/
def fX2_has (k : Nat) (b0 : Nat) : Nat → Nat → Int32 → ra_W → Option (Int32 × ra_W)
  | 0, _, _, _ => none
  | n + 1, L, v1, w => match L with
    | _ => if v1 < 0 then (some (0, w)) else (if (w b0 0) ≤ v1 then (some (0, w)) else (if 7 ≤ v1 then (some (0, w)) else (some (1, w))))
theorem fX2_has_0 (k : Nat) (b0 : Nat) (n : Nat) (v1 : Int32) (w : ra_W) : fX2_has k b0 (n + 1) 0 v1 w = (if v1 < 0 then (some (0, w)) else (if (w b0 0) ≤ v1 then (some (0, w)) else (if 7 ≤ v1 then (some (0, w)) else (some (1, w))))) := rfl
def FX2_has (k : Nat) (b0 : Nat) (v1 : Int32) (w : ra_W) : Option (Int32 × ra_W) := fX2_has k b0 k 0 v1 w
def pX2_has_0 (Z : ra_Z) (r : Int32) (w1 : ra_W) (k : Nat) (b0 : Nat) (n : Nat) : Prop := ∀ (v1 : Int32) (w : ra_W), fX2_has k b0 n 0 v1 w = some (r, w1) → ra_J Z 2 0 [(0, .ref ((zG Z).1 b0)), (1, .int v1)] [] w
set_option maxHeartbeats 4000000 in
theorem tX2_has_0 {Z : ra_Z} {r : Int32} {w1 : ra_W} (C : ra_C Z cX2_has 2 RX2 0 0) (hQ : ra_QI Z r w1) (hr : (zmt Z).sig.returnType = (some .boolean)) (k : Nat) (b0 : Nat) (h0 : ra_N b0) (n : Nat) : pX2_has_0 Z r w1 k b0 (n + 1) := by
  intro v1 w hf
  rw [fX2_has_0] at hf
  refine rg_iload_n (pc := 0) C 1 rfl rfl dX2_has_0 ?_
  refine rg_if_lt (pc := 1) (tgt := 22) C dX2_has_1 (by decide) (fun c1 => ?_) (fun c1 => ?_)
  · replace hf := ra_t hf c1
    refine rg_iconst (pc := 22) (v := 0) C dX2_has_22 (by decide) ?_
    exact rg_zret (pc := 23) C hQ hr (by decide) hf dX2_has_23
  · replace hf := ra_f hf c1
    refine rg_iload_n (pc := 4) C 1 rfl rfl dX2_has_4 ?_
    refine rg_aload_n (pc := 5) C 0 rfl rfl dX2_has_5 ?_
    refine rg_get (pc := 6) C b0 2 0 h0.1 (by decide) rfl inlX2 (by decide) wd_65 rfl dX2_has_6 ?_
    refine rg_icmp_ge (pc := 9) (tgt := 22) C dX2_has_9 (by decide) (fun c2 => ?_) (fun c2 => ?_)
    · replace hf := ra_t hf c2
      refine rg_iconst (pc := 22) (v := 0) C dX2_has_22 (by decide) ?_
      exact rg_zret (pc := 23) C hQ hr (by decide) hf dX2_has_23
    · replace hf := ra_f hf c2
      refine rg_iload_n (pc := 12) C 1 rfl rfl dX2_has_12 ?_
      refine rg_bipush (pc := 13) (v := 7) C dX2_has_13 (by decide) ?_
      refine rg_icmp_ge (pc := 15) (tgt := 22) C dX2_has_15 (by decide) (fun c3 => ?_) (fun c3 => ?_)
      · replace hf := ra_t hf c3
        refine rg_iconst (pc := 22) (v := 0) C dX2_has_22 (by decide) ?_
        exact rg_zret (pc := 23) C hQ hr (by decide) hf dX2_has_23
      · replace hf := ra_f hf c3
        refine rg_iconst (pc := 18) (v := 1) C dX2_has_18 (by decide) ?_
        refine rg_goto (pc := 19) (tgt := 23) C dX2_has_19 (by decide) ?_
        exact rg_zret (pc := 23) C hQ hr (by decide) hf dX2_has_23
theorem tX2_has {Z : ra_Z} {r : Int32} {w1 : ra_W} (C : ra_C Z cX2_has 2 RX2 0 0) (hQ : ra_QI Z r w1) (hr : (zmt Z).sig.returnType = (some .boolean)) (k : Nat) (b0 : Nat) (h0 : ra_N b0) : ∀ n : Nat, pX2_has_0 Z r w1 k b0 n := by
  intro n
  induction n with
  | zero => exact (fun _ _ h => by cases h)
  | succ n ih => exact tX2_has_0 C hQ hr k b0 h0 n
theorem kX2_has (l : Launch) (G : ra_G) (hj : ra_inj G) (k : Nat) (b0 : Nat) (h0 : ra_N b0) (v1 : Int32) (w : ra_W) (r : Int32) (w1 : ra_W) (h : FX2_has k b0 v1 w = some (r, w1)) : ra_MI l G yX2_has cX2_has 2 (some .boolean) 0 0 [.ref (G.1 b0), .int v1] w r w1 :=
  ra_entryI (own := RX2) (by decide) rfl (Nat.le_of_ble_eq_true rfl) hj (fun Z hl hG C hQ hr => by subst hl; subst hG; exact (tX2_has C hQ hr k b0 h0 k) _ _ h)
theorem ysX2_has : ra_YV yX2_has cX2_has 2 (some .boolean) 1 RX2 := ⟨⟨wd_3, wd_428, by decide, by decide, by decide⟩, wd_426, wd_427⟩
/-- TrunkRadio$Reader.append -/
def fX3_append (k : Nat) : Nat → Nat → Int32 → ra_W → Option (Int32 × ra_W)
  | 0, _, _, _ => none
  | n + 1, L, v1, w => match L with
    | _ => if (w 1 0) < 0 then (some (0, w)) else (if (w 1 0) < 80 then (if ra_in (w 1 0) 80 then some (1, (ra_st (ra_st w 2 (ra_ix (w 1 0)) v1) 1 0 (((ra_st w 2 (ra_ix (w 1 0)) v1) 1 0) + 1))) else none) else (some (0, w)))
theorem fX3_append_0 (k : Nat) (n : Nat) (v1 : Int32) (w : ra_W) : fX3_append k (n + 1) 0 v1 w = (if (w 1 0) < 0 then (some (0, w)) else (if (w 1 0) < 80 then (if ra_in (w 1 0) 80 then some (1, (ra_st (ra_st w 2 (ra_ix (w 1 0)) v1) 1 0 (((ra_st w 2 (ra_ix (w 1 0)) v1) 1 0) + 1))) else none) else (some (0, w)))) := rfl
def FX3_append (k : Nat) (v1 : Int32) (w : ra_W) : Option (Int32 × ra_W) := fX3_append k k 0 v1 w
def pX3_append_0 (Z : ra_Z) (r : Int32) (w1 : ra_W) (k : Nat) (n : Nat) : Prop := ∀ (v1 : Int32) (w : ra_W), fX3_append k n 0 v1 w = some (r, w1) → ra_J Z 2 0 [(0, .ref ((zG Z).1 1)), (1, .int v1)] [] w
set_option maxHeartbeats 4000000 in
theorem tX3_append_0 {Z : ra_Z} {r : Int32} {w1 : ra_W} (C : ra_C Z cX3_append 2 RX3 0 0) (hQ : ra_QI Z r w1) (hr : (zmt Z).sig.returnType = (some .boolean)) (k : Nat) (n : Nat) : pX3_append_0 Z r w1 k (n + 1) := by
  intro v1 w hf
  rw [fX3_append_0] at hf
  refine rg_aload_n (pc := 0) C 0 rfl rfl dX3_append_0 ?_
  refine rg_get (pc := 1) C 1 3 0 kd_1 (by decide) rfl inlX3 (by decide) wd_25 rfl dX3_append_1 ?_
  refine rg_if_lt (pc := 4) (tgt := 16) C dX3_append_4 (by decide) (fun c1 => ?_) (fun c1 => ?_)
  · replace hf := ra_t hf c1
    refine rg_iconst (pc := 16) (v := 0) C dX3_append_16 (by decide) ?_
    exact rg_zret (pc := 17) C hQ hr (by decide) hf dX3_append_17
  · replace hf := ra_f hf c1
    refine rg_aload_n (pc := 7) C 0 rfl rfl dX3_append_7 ?_
    refine rg_get (pc := 8) C 1 3 0 kd_1 (by decide) rfl inlX3 (by decide) wd_25 rfl dX3_append_8 ?_
    refine rg_bipush (pc := 11) (v := 80) C dX3_append_11 (by decide) ?_
    refine rg_icmp_lt (pc := 13) (tgt := 18) C dX3_append_13 (by decide) (fun c2 => ?_) (fun c2 => ?_)
    · replace hf := ra_t hf c2
      refine rg_aload_n (pc := 18) C 0 rfl rfl dX3_append_18 ?_
      refine rg_get (pc := 19) C 1 3 1 kd_1 (by decide) rfl inlX3 (by decide) wd_27 rfl dX3_append_19 ?_
      refine rg_aload_n (pc := 22) C 0 rfl rfl dX3_append_22 ?_
      refine rg_get (pc := 23) C 1 3 0 kd_1 (by decide) rfl inlX3 (by decide) wd_25 rfl dX3_append_23 ?_
      refine rg_iload_n (pc := 26) C 1 rfl rfl dX3_append_26 ?_
      obtain ⟨g3, hf⟩ := ra_gd hf
      refine rg_iast (pc := 27) (j := (ra_ix (w 1 0))) C 2 kd_2 rfl g3 dX3_append_27 ?_
      refine rg_aload_n (pc := 28) C 0 rfl rfl dX3_append_28 ?_
      refine rg_dup (pc := 29) C rfl dX3_append_29 ?_
      refine rg_get (pc := 30) C 1 3 0 kd_1 (by decide) rfl inlX3 (by decide) wd_25 rfl dX3_append_30 ?_
      refine rg_iconst (pc := 33) (v := 1) C dX3_append_33 (by decide) ?_
      refine rg_iadd (pc := 34) C dX3_append_34 ?_
      refine rg_put (pc := 35) C 1 3 0 kd_1 (by decide) rfl inlX3 tyX3 tyX3_ok nmX3 (by decide) wd_25 rfl rfl rfl (Nat.le_of_ble_eq_true rfl) rfl dX3_append_35 ?_
      refine rg_iconst (pc := 38) (v := 1) C dX3_append_38 (by decide) ?_
      exact rg_zret (pc := 39) C hQ hr (by decide) hf dX3_append_39
    · replace hf := ra_f hf c2
      refine rg_iconst (pc := 16) (v := 0) C dX3_append_16 (by decide) ?_
      exact rg_zret (pc := 17) C hQ hr (by decide) hf dX3_append_17
theorem tX3_append {Z : ra_Z} {r : Int32} {w1 : ra_W} (C : ra_C Z cX3_append 2 RX3 0 0) (hQ : ra_QI Z r w1) (hr : (zmt Z).sig.returnType = (some .boolean)) (k : Nat) : ∀ n : Nat, pX3_append_0 Z r w1 k n := by
  intro n
  induction n with
  | zero => exact (fun _ _ h => by cases h)
  | succ n ih => exact tX3_append_0 C hQ hr k n
theorem kX3_append (l : Launch) (G : ra_G) (hj : ra_inj G) (k : Nat) (v1 : Int32) (w : ra_W) (r : Int32) (w1 : ra_W) (h : FX3_append k v1 w = some (r, w1)) : ra_MI l G yX3_append cX3_append 2 (some .boolean) 0 0 [.ref (G.1 1), .int v1] w r w1 :=
  ra_entryI (own := RX3) (by decide) rfl (Nat.le_of_ble_eq_true rfl) hj (fun Z hl hG C hQ hr => by subst hl; subst hG; exact (tX3_append C hQ hr k k) _ _ h)
theorem ysX3_append : ra_YV yX3_append cX3_append 2 (some .boolean) 1 RX3 := ⟨⟨wd_2, wd_248, by decide, by decide, by decide⟩, wd_246, wd_247⟩
/-- TrunkRadio$Reader.empty -/
def fX3_empty (k : Nat) : Nat → Nat → ra_W → Option (Int32 × ra_W)
  | 0, _, _ => none
  | n + 1, L, w => match L with
    | _ => some ((w 1 0), (ra_st w 1 0 0))
theorem fX3_empty_0 (k : Nat) (n : Nat)  (w : ra_W) : fX3_empty k (n + 1) 0  w = (some ((w 1 0), (ra_st w 1 0 0))) := rfl
def FX3_empty (k : Nat)  (w : ra_W) : Option (Int32 × ra_W) := fX3_empty k k 0  w
def pX3_empty_0 (Z : ra_Z) (r : Int32) (w1 : ra_W) (k : Nat) (n : Nat) : Prop := ∀  (w : ra_W), fX3_empty k n 0  w = some (r, w1) → ra_J Z 2 0 [(0, .ref ((zG Z).1 1))] [] w
set_option maxHeartbeats 4000000 in
theorem tX3_empty_0 {Z : ra_Z} {r : Int32} {w1 : ra_W} (C : ra_C Z cX3_empty 2 RX3 0 0) (hQ : ra_QI Z r w1) (hr : (zmt Z).sig.returnType = (some .int)) (k : Nat) (n : Nat) : pX3_empty_0 Z r w1 k (n + 1) := by
  intro w hf
  rw [fX3_empty_0] at hf
  refine rg_aload_n (pc := 0) C 0 rfl rfl dX3_empty_0 ?_
  refine rg_get (pc := 1) C 1 3 0 kd_1 (by decide) rfl inlX3 (by decide) wd_25 rfl dX3_empty_1 ?_
  refine rg_istore_n (pc := 4) (lv' := [(0, .ref ((zG Z).1 1)), (1, .int (w 1 0))]) C [1, 0] rfl rfl (by decide) dX3_empty_4 ?_
  refine rg_aload_n (pc := 5) C 0 rfl rfl dX3_empty_5 ?_
  refine rg_iconst (pc := 6) (v := 0) C dX3_empty_6 (by decide) ?_
  refine rg_put (pc := 7) C 1 3 0 kd_1 (by decide) rfl inlX3 tyX3 tyX3_ok nmX3 (by decide) wd_25 rfl rfl rfl (Nat.le_of_ble_eq_true rfl) rfl dX3_empty_7 ?_
  refine rg_iload_n (pc := 10) C 1 rfl rfl dX3_empty_10 ?_
  exact rg_iret (pc := 11) C hQ hr hf dX3_empty_11
theorem tX3_empty {Z : ra_Z} {r : Int32} {w1 : ra_W} (C : ra_C Z cX3_empty 2 RX3 0 0) (hQ : ra_QI Z r w1) (hr : (zmt Z).sig.returnType = (some .int)) (k : Nat) : ∀ n : Nat, pX3_empty_0 Z r w1 k n := by
  intro n
  induction n with
  | zero => exact (fun _ h => by cases h)
  | succ n ih => exact tX3_empty_0 C hQ hr k n
theorem kX3_empty (l : Launch) (G : ra_G) (hj : ra_inj G) (k : Nat)  (w : ra_W) (r : Int32) (w1 : ra_W) (h : FX3_empty k  w = some (r, w1)) : ra_MI l G yX3_empty cX3_empty 2 (some .int) 0 0 [.ref (G.1 1)] w r w1 :=
  ra_entryI (own := RX3) (by decide) rfl (Nat.le_of_ble_eq_true rfl) hj (fun Z hl hG C hQ hr => by subst hl; subst hG; exact (tX3_empty C hQ hr k k) _ h)
theorem ysX3_empty : ra_YV yX3_empty cX3_empty 2 (some .int) 0 RX3 := ⟨⟨wd_2, wd_256, by decide, by decide, by decide⟩, wd_254, wd_255⟩
/-- TrunkRadio$Reader.letterAt -/
def fX3_letterAt (k : Nat) : Nat → Nat → Int32 → ra_W → Option (Int32 × ra_W)
  | 0, _, _, _ => none
  | n + 1, L, v1, w => match L with
    | _ => if v1 < 0 then (some (0, w)) else (if (w 1 0) ≤ v1 then (some (0, w)) else (if 80 ≤ v1 then (some (0, w)) else (if ra_in v1 80 then some ((w 2 (ra_ix v1)), w) else none)))
theorem fX3_letterAt_0 (k : Nat) (n : Nat) (v1 : Int32) (w : ra_W) : fX3_letterAt k (n + 1) 0 v1 w = (if v1 < 0 then (some (0, w)) else (if (w 1 0) ≤ v1 then (some (0, w)) else (if 80 ≤ v1 then (some (0, w)) else (if ra_in v1 80 then some ((w 2 (ra_ix v1)), w) else none)))) := rfl
def FX3_letterAt (k : Nat) (v1 : Int32) (w : ra_W) : Option (Int32 × ra_W) := fX3_letterAt k k 0 v1 w
def pX3_letterAt_0 (Z : ra_Z) (r : Int32) (w1 : ra_W) (k : Nat) (n : Nat) : Prop := ∀ (v1 : Int32) (w : ra_W), fX3_letterAt k n 0 v1 w = some (r, w1) → ra_J Z 2 0 [(0, .ref ((zG Z).1 1)), (1, .int v1)] [] w
set_option maxHeartbeats 4000000 in
theorem tX3_letterAt_0 {Z : ra_Z} {r : Int32} {w1 : ra_W} (C : ra_C Z cX3_letterAt 2 RX3 0 0) (hQ : ra_QI Z r w1) (hr : (zmt Z).sig.returnType = (some .int)) (k : Nat) (n : Nat) : pX3_letterAt_0 Z r w1 k (n + 1) := by
  intro v1 w hf
  rw [fX3_letterAt_0] at hf
  refine rg_iload_n (pc := 0) C 1 rfl rfl dX3_letterAt_0 ?_
  refine rg_if_lt (pc := 1) (tgt := 27) C dX3_letterAt_1 (by decide) (fun c1 => ?_) (fun c1 => ?_)
  · replace hf := ra_t hf c1
    refine rg_iconst (pc := 27) (v := 0) C dX3_letterAt_27 (by decide) ?_
    exact rg_iret (pc := 28) C hQ hr hf dX3_letterAt_28
  · replace hf := ra_f hf c1
    refine rg_iload_n (pc := 4) C 1 rfl rfl dX3_letterAt_4 ?_
    refine rg_aload_n (pc := 5) C 0 rfl rfl dX3_letterAt_5 ?_
    refine rg_get (pc := 6) C 1 3 0 kd_1 (by decide) rfl inlX3 (by decide) wd_25 rfl dX3_letterAt_6 ?_
    refine rg_icmp_ge (pc := 9) (tgt := 27) C dX3_letterAt_9 (by decide) (fun c2 => ?_) (fun c2 => ?_)
    · replace hf := ra_t hf c2
      refine rg_iconst (pc := 27) (v := 0) C dX3_letterAt_27 (by decide) ?_
      exact rg_iret (pc := 28) C hQ hr hf dX3_letterAt_28
    · replace hf := ra_f hf c2
      refine rg_iload_n (pc := 12) C 1 rfl rfl dX3_letterAt_12 ?_
      refine rg_bipush (pc := 13) (v := 80) C dX3_letterAt_13 (by decide) ?_
      refine rg_icmp_ge (pc := 15) (tgt := 27) C dX3_letterAt_15 (by decide) (fun c3 => ?_) (fun c3 => ?_)
      · replace hf := ra_t hf c3
        refine rg_iconst (pc := 27) (v := 0) C dX3_letterAt_27 (by decide) ?_
        exact rg_iret (pc := 28) C hQ hr hf dX3_letterAt_28
      · replace hf := ra_f hf c3
        refine rg_aload_n (pc := 18) C 0 rfl rfl dX3_letterAt_18 ?_
        refine rg_get (pc := 19) C 1 3 1 kd_1 (by decide) rfl inlX3 (by decide) wd_27 rfl dX3_letterAt_19 ?_
        refine rg_iload_n (pc := 22) C 1 rfl rfl dX3_letterAt_22 ?_
        obtain ⟨g4, hf⟩ := ra_gd hf
        refine rg_iald (pc := 23) (j := (ra_ix v1)) C 2 kd_2 rfl g4 dX3_letterAt_23 ?_
        refine rg_goto (pc := 24) (tgt := 28) C dX3_letterAt_24 (by decide) ?_
        exact rg_iret (pc := 28) C hQ hr hf dX3_letterAt_28
theorem tX3_letterAt {Z : ra_Z} {r : Int32} {w1 : ra_W} (C : ra_C Z cX3_letterAt 2 RX3 0 0) (hQ : ra_QI Z r w1) (hr : (zmt Z).sig.returnType = (some .int)) (k : Nat) : ∀ n : Nat, pX3_letterAt_0 Z r w1 k n := by
  intro n
  induction n with
  | zero => exact (fun _ _ h => by cases h)
  | succ n ih => exact tX3_letterAt_0 C hQ hr k n
theorem kX3_letterAt (l : Launch) (G : ra_G) (hj : ra_inj G) (k : Nat) (v1 : Int32) (w : ra_W) (r : Int32) (w1 : ra_W) (h : FX3_letterAt k v1 w = some (r, w1)) : ra_MI l G yX3_letterAt cX3_letterAt 2 (some .int) 0 0 [.ref (G.1 1), .int v1] w r w1 :=
  ra_entryI (own := RX3) (by decide) rfl (Nat.le_of_ble_eq_true rfl) hj (fun Z hl hG C hQ hr => by subst hl; subst hG; exact (tX3_letterAt C hQ hr k k) _ _ h)
theorem ysX3_letterAt : ra_YV yX3_letterAt cX3_letterAt 2 (some .int) 1 RX3 := ⟨⟨wd_2, wd_273, by decide, by decide, by decide⟩, wd_272, wp_1⟩
/-- TrunkRadio$Reader.isDigit -/
def fX3_isDigit (k : Nat) : Nat → Nat → Int32 → ra_W → Option (Int32 × ra_W)
  | 0, _, _, _ => none
  | n + 1, L, v0, w => match L with
    | _ => if v0 < 48 then (some (0, w)) else (if 57 < v0 then (some (0, w)) else (some (1, w)))
theorem fX3_isDigit_0 (k : Nat) (n : Nat) (v0 : Int32) (w : ra_W) : fX3_isDigit k (n + 1) 0 v0 w = (if v0 < 48 then (some (0, w)) else (if 57 < v0 then (some (0, w)) else (some (1, w)))) := rfl
def FX3_isDigit (k : Nat) (v0 : Int32) (w : ra_W) : Option (Int32 × ra_W) := fX3_isDigit k k 0 v0 w
def pX3_isDigit_0 (Z : ra_Z) (r : Int32) (w1 : ra_W) (k : Nat) (n : Nat) : Prop := ∀ (v0 : Int32) (w : ra_W), fX3_isDigit k n 0 v0 w = some (r, w1) → ra_J Z 1 0 [(0, .int v0)] [] w
set_option maxHeartbeats 4000000 in
theorem tX3_isDigit_0 {Z : ra_Z} {r : Int32} {w1 : ra_W} (C : ra_C Z cX3_isDigit 1 RX3 0 0) (hQ : ra_QI Z r w1) (hr : (zmt Z).sig.returnType = (some .boolean)) (k : Nat) (n : Nat) : pX3_isDigit_0 Z r w1 k (n + 1) := by
  intro v0 w hf
  rw [fX3_isDigit_0] at hf
  refine rg_iload_n (pc := 0) C 0 rfl rfl dX3_isDigit_0 ?_
  refine rg_bipush (pc := 1) (v := 48) C dX3_isDigit_1 (by decide) ?_
  refine rg_icmp_lt (pc := 3) (tgt := 16) C dX3_isDigit_3 (by decide) (fun c1 => ?_) (fun c1 => ?_)
  · replace hf := ra_t hf c1
    refine rg_iconst (pc := 16) (v := 0) C dX3_isDigit_16 (by decide) ?_
    exact rg_zret (pc := 17) C hQ hr (by decide) hf dX3_isDigit_17
  · replace hf := ra_f hf c1
    refine rg_iload_n (pc := 6) C 0 rfl rfl dX3_isDigit_6 ?_
    refine rg_bipush (pc := 7) (v := 57) C dX3_isDigit_7 (by decide) ?_
    refine rg_icmp_gt (pc := 9) (tgt := 16) C dX3_isDigit_9 (by decide) (fun c2 => ?_) (fun c2 => ?_)
    · replace hf := ra_t hf c2
      refine rg_iconst (pc := 16) (v := 0) C dX3_isDigit_16 (by decide) ?_
      exact rg_zret (pc := 17) C hQ hr (by decide) hf dX3_isDigit_17
    · replace hf := ra_f hf c2
      refine rg_iconst (pc := 12) (v := 1) C dX3_isDigit_12 (by decide) ?_
      refine rg_goto (pc := 13) (tgt := 17) C dX3_isDigit_13 (by decide) ?_
      exact rg_zret (pc := 17) C hQ hr (by decide) hf dX3_isDigit_17
theorem tX3_isDigit {Z : ra_Z} {r : Int32} {w1 : ra_W} (C : ra_C Z cX3_isDigit 1 RX3 0 0) (hQ : ra_QI Z r w1) (hr : (zmt Z).sig.returnType = (some .boolean)) (k : Nat) : ∀ n : Nat, pX3_isDigit_0 Z r w1 k n := by
  intro n
  induction n with
  | zero => exact (fun _ _ h => by cases h)
  | succ n ih => exact tX3_isDigit_0 C hQ hr k n
theorem kX3_isDigit (l : Launch) (G : ra_G) (hj : ra_inj G) (k : Nat) (v0 : Int32) (w : ra_W) (r : Int32) (w1 : ra_W) (h : FX3_isDigit k v0 w = some (r, w1)) : ra_MI l G yX3_isDigit cX3_isDigit 1 (some .boolean) 0 0 [.int v0] w r w1 :=
  ra_entryI (own := RX3) (by decide) rfl (Nat.le_of_ble_eq_true rfl) hj (fun Z hl hG C hQ hr => by subst hl; subst hG; exact (tX3_isDigit C hQ hr k k) _ _ h)
theorem ysX3_isDigit : ra_YS yX3_isDigit cX3_isDigit 1 (some .boolean) 1 := ⟨⟨wd_2, wd_276, by decide, by decide, by decide⟩, wd_275⟩
/-- TrunkRadio$Reader.readNumber -/
def fX3_readNumber (k : Nat) : Nat → Nat → Int32 → ra_W → Option (Int32 × ra_W)
  | 0, _, _, _ => none
  | n + 1, L, s0, w => match L with
    | 0 => fX3_readNumber k n 1 0 (ra_st w 1 5 0)
    | 1 => if (w 1 0) ≤ (w 1 2) then (fX3_readNumber k n 2 0 w) else (ra_bind (FX3_letterAt k (w 1 2) w) (fun r2 w3 => ra_bind (FX3_isDigit k r2 w3) (fun r5 w6 => if r5 = 0 then (fX3_readNumber k n 2 0 w6) else (ra_bind (FX3_letterAt k (w6 1 2) w6) (fun r9 w10 => fX3_readNumber k n 1 0 (ra_st (ra_st w10 1 5 (if ((((w6 1 5) * 10) + r9) - 48) < 100 then ((((w6 1 5) * 10) + r9) - 48) else 100)) 1 2 (((ra_st w10 1 5 (if ((((w6 1 5) * 10) + r9) - 48) < 100 then ((((w6 1 5) * 10) + r9) - 48) else 100)) 1 2) + 1)))))))
    | 2 => ra_bind (FX3_letterAt k (w 1 3) w) (fun r1 w2 => if r1 = 48 then (if ((w2 1 2) - (w2 1 3)) ≤ 1 then (fX3_readNumber k n 3 0 w2) else (fX3_readNumber k n 4 1 w2)) else (fX3_readNumber k n 3 0 w2))
    | 3 => fX3_readNumber k n 4 0 w
    | 4 => if s0 = 0 then (if (w 1 5) ≤ 99 then (fX3_readNumber k n 6 1 w) else (fX3_readNumber k n 5 0 w)) else (fX3_readNumber k n 5 0 w)
    | 5 => fX3_readNumber k n 6 2 w
    | _ => some (0, (ra_st w 1 4 s0))
theorem fX3_readNumber_0 (k : Nat) (n : Nat) (s0 : Int32) (w : ra_W) : fX3_readNumber k (n + 1) 0 s0 w = (fX3_readNumber k n 1 0 (ra_st w 1 5 0)) := rfl
theorem fX3_readNumber_1 (k : Nat) (n : Nat) (s0 : Int32) (w : ra_W) : fX3_readNumber k (n + 1) 1 s0 w = (if (w 1 0) ≤ (w 1 2) then (fX3_readNumber k n 2 0 w) else (ra_bind (FX3_letterAt k (w 1 2) w) (fun r2 w3 => ra_bind (FX3_isDigit k r2 w3) (fun r5 w6 => if r5 = 0 then (fX3_readNumber k n 2 0 w6) else (ra_bind (FX3_letterAt k (w6 1 2) w6) (fun r9 w10 => fX3_readNumber k n 1 0 (ra_st (ra_st w10 1 5 (if ((((w6 1 5) * 10) + r9) - 48) < 100 then ((((w6 1 5) * 10) + r9) - 48) else 100)) 1 2 (((ra_st w10 1 5 (if ((((w6 1 5) * 10) + r9) - 48) < 100 then ((((w6 1 5) * 10) + r9) - 48) else 100)) 1 2) + 1)))))))) := rfl
theorem fX3_readNumber_2 (k : Nat) (n : Nat) (s0 : Int32) (w : ra_W) : fX3_readNumber k (n + 1) 2 s0 w = (ra_bind (FX3_letterAt k (w 1 3) w) (fun r1 w2 => if r1 = 48 then (if ((w2 1 2) - (w2 1 3)) ≤ 1 then (fX3_readNumber k n 3 0 w2) else (fX3_readNumber k n 4 1 w2)) else (fX3_readNumber k n 3 0 w2))) := rfl
theorem fX3_readNumber_3 (k : Nat) (n : Nat) (s0 : Int32) (w : ra_W) : fX3_readNumber k (n + 1) 3 s0 w = (fX3_readNumber k n 4 0 w) := rfl
theorem fX3_readNumber_4 (k : Nat) (n : Nat) (s0 : Int32) (w : ra_W) : fX3_readNumber k (n + 1) 4 s0 w = (if s0 = 0 then (if (w 1 5) ≤ 99 then (fX3_readNumber k n 6 1 w) else (fX3_readNumber k n 5 0 w)) else (fX3_readNumber k n 5 0 w)) := rfl
theorem fX3_readNumber_5 (k : Nat) (n : Nat) (s0 : Int32) (w : ra_W) : fX3_readNumber k (n + 1) 5 s0 w = (fX3_readNumber k n 6 2 w) := rfl
theorem fX3_readNumber_6 (k : Nat) (n : Nat) (s0 : Int32) (w : ra_W) : fX3_readNumber k (n + 1) 6 s0 w = (some (0, (ra_st w 1 4 s0))) := rfl
def FX3_readNumber (k : Nat)  (w : ra_W) : Option (Int32 × ra_W) := fX3_readNumber k k 0 0 w
def pX3_readNumber_0 (Z : ra_Z) (r : Int32) (w1 : ra_W) (k : Nat) (n : Nat) : Prop := ∀ (s0 : Int32) (w : ra_W), fX3_readNumber k n 0 s0 w = some (r, w1) → ra_J Z 2 0 [(0, .ref ((zG Z).1 1))] [] w
def pX3_readNumber_1 (Z : ra_Z) (r : Int32) (w1 : ra_W) (k : Nat) (n : Nat) : Prop := ∀ (s0 : Int32) (w : ra_W), fX3_readNumber k n 1 s0 w = some (r, w1) → ra_J Z 2 5 [(0, .ref ((zG Z).1 1))] [] w
def pX3_readNumber_2 (Z : ra_Z) (r : Int32) (w1 : ra_W) (k : Nat) (n : Nat) : Prop := ∀ (s0 : Int32) (w : ra_W), fX3_readNumber k n 2 s0 w = some (r, w1) → ra_J Z 2 71 [(0, .ref ((zG Z).1 1))] [] w
def pX3_readNumber_3 (Z : ra_Z) (r : Int32) (w1 : ra_W) (k : Nat) (n : Nat) : Prop := ∀ (s0 : Int32) (w : ra_W), fX3_readNumber k n 3 s0 w = some (r, w1) → ra_J Z 2 101 [(0, .ref ((zG Z).1 1))] [] w
def pX3_readNumber_4 (Z : ra_Z) (r : Int32) (w1 : ra_W) (k : Nat) (n : Nat) : Prop := ∀ (s0 : Int32) (w : ra_W), fX3_readNumber k n 4 s0 w = some (r, w1) → ra_J Z 2 102 [(0, .ref ((zG Z).1 1))] [.int s0] w
def pX3_readNumber_5 (Z : ra_Z) (r : Int32) (w1 : ra_W) (k : Nat) (n : Nat) : Prop := ∀ (s0 : Int32) (w : ra_W), fX3_readNumber k n 5 s0 w = some (r, w1) → ra_J Z 2 117 [(0, .ref ((zG Z).1 1))] [.ref ((zG Z).1 1)] w
def pX3_readNumber_6 (Z : ra_Z) (r : Int32) (w1 : ra_W) (k : Nat) (n : Nat) : Prop := ∀ (s0 : Int32) (w : ra_W), fX3_readNumber k n 6 s0 w = some (r, w1) → ra_J Z 2 122 [(0, .ref ((zG Z).1 1))] [.int s0, .ref ((zG Z).1 1)] w
set_option maxHeartbeats 4000000 in
theorem tX3_readNumber_0 {Z : ra_Z} {r : Int32} {w1 : ra_W} (C : ra_C Z cX3_readNumber 2 RX3 1 30) (hQ : ra_QV Z r w1) (hr : (zmt Z).sig.returnType = none) (k : Nat) (n : Nat) (ih1 : pX3_readNumber_1 Z r w1 k n) : pX3_readNumber_0 Z r w1 k (n + 1) := by
  intro s0 w hf
  rw [fX3_readNumber_0] at hf
  refine rg_aload_n (pc := 0) C 0 rfl rfl dX3_readNumber_0 ?_
  refine rg_iconst (pc := 1) (v := 0) C dX3_readNumber_1 (by decide) ?_
  refine rg_put (pc := 2) C 1 3 5 kd_1 (by decide) rfl inlX3 tyX3 tyX3_ok nmX3 (by decide) wd_31 rfl rfl rfl (Nat.le_of_ble_eq_true rfl) rfl dX3_readNumber_2 ?_
  exact ih1 _ _ hf
set_option maxHeartbeats 4000000 in
theorem tX3_readNumber_1 {Z : ra_Z} {r : Int32} {w1 : ra_W} (C : ra_C Z cX3_readNumber 2 RX3 1 30) (hQ : ra_QV Z r w1) (hr : (zmt Z).sig.returnType = none) (k : Nat) (n : Nat) (ih1 : pX3_readNumber_1 Z r w1 k n) (ih2 : pX3_readNumber_2 Z r w1 k n) : pX3_readNumber_1 Z r w1 k (n + 1) := by
  intro s0 w hf
  rw [fX3_readNumber_1] at hf
  refine rg_aload_n (pc := 5) C 0 rfl rfl dX3_readNumber_5 ?_
  refine rg_get (pc := 6) C 1 3 2 kd_1 (by decide) rfl inlX3 (by decide) wd_28 rfl dX3_readNumber_6 ?_
  refine rg_aload_n (pc := 9) C 0 rfl rfl dX3_readNumber_9 ?_
  refine rg_get (pc := 10) C 1 3 0 kd_1 (by decide) rfl inlX3 (by decide) wd_25 rfl dX3_readNumber_10 ?_
  refine rg_icmp_ge (pc := 13) (tgt := 71) C dX3_readNumber_13 (by decide) (fun c1 => ?_) (fun c1 => ?_)
  · replace hf := ra_t hf c1
    exact ih2 _ _ hf
  · replace hf := ra_f hf c1
    refine rg_aload_n (pc := 16) C 0 rfl rfl dX3_readNumber_16 ?_
    refine rg_aload_n (pc := 17) C 0 rfl rfl dX3_readNumber_17 ?_
    refine rg_get (pc := 18) C 1 3 2 kd_1 (by decide) rfl inlX3 (by decide) wd_28 rfl dX3_readNumber_18 ?_
    obtain ⟨r2, w3, e4, hf⟩ := ra_bd hf
    refine rg_callVI (pc := 21) (As := [.int (w 1 2)]) (st := []) C (kX3_letterAt (zl Z) (zG Z) C.hj k _ _ _ _ e4) kd_1 (by decide) rfl ysX3_letterAt rfl wd_270 ⟨Nat.le_of_ble_eq_true rfl, Nat.le_of_ble_eq_true rfl⟩ rfl (Nat.le_of_ble_eq_true rfl) dX3_readNumber_21 ?_
    obtain ⟨r5, w6, e7, hf⟩ := ra_bd hf
    refine rg_callSI (pc := 24) (As := [.int r2]) (st := []) C (kX3_isDigit (zl Z) (zG Z) C.hj k _ _ _ _ e7) ysX3_isDigit rfl wd_274 ⟨Nat.le_of_ble_eq_true rfl, Nat.le_of_ble_eq_true rfl⟩ rfl (Nat.le_of_ble_eq_true rfl) dX3_readNumber_24 ?_
    refine rg_if_eq (pc := 27) (tgt := 71) C dX3_readNumber_27 (by decide) (fun c8 => ?_) (fun c8 => ?_)
    · replace hf := ra_t hf c8
      exact ih2 _ _ hf
    · replace hf := ra_f hf c8
      refine rg_aload_n (pc := 30) C 0 rfl rfl dX3_readNumber_30 ?_
      refine rg_bipush (pc := 31) (v := 100) C dX3_readNumber_31 (by decide) ?_
      refine rg_aload_n (pc := 33) C 0 rfl rfl dX3_readNumber_33 ?_
      refine rg_get (pc := 34) C 1 3 5 kd_1 (by decide) rfl inlX3 (by decide) wd_31 rfl dX3_readNumber_34 ?_
      refine rg_bipush (pc := 37) (v := 10) C dX3_readNumber_37 (by decide) ?_
      refine rg_imul (pc := 39) C dX3_readNumber_39 ?_
      refine rg_aload_n (pc := 40) C 0 rfl rfl dX3_readNumber_40 ?_
      refine rg_aload_n (pc := 41) C 0 rfl rfl dX3_readNumber_41 ?_
      refine rg_get (pc := 42) C 1 3 2 kd_1 (by decide) rfl inlX3 (by decide) wd_28 rfl dX3_readNumber_42 ?_
      obtain ⟨r9, w10, e11, hf⟩ := ra_bd hf
      refine rg_callVI (pc := 45) (As := [.int (w6 1 2)]) (st := [.int ((w6 1 5) * 10), .int 100, .ref ((zG Z).1 1)]) C (kX3_letterAt (zl Z) (zG Z) C.hj k _ _ _ _ e11) kd_1 (by decide) rfl ysX3_letterAt rfl wd_270 ⟨Nat.le_of_ble_eq_true rfl, Nat.le_of_ble_eq_true rfl⟩ rfl (Nat.le_of_ble_eq_true rfl) dX3_readNumber_45 ?_
      refine rg_iadd (pc := 48) C dX3_readNumber_48 ?_
      refine rg_bipush (pc := 49) (v := 48) C dX3_readNumber_49 (by decide) ?_
      refine rg_isub (pc := 51) C dX3_readNumber_51 ?_
      refine rg_min (pc := 52) C wd_281 wd_282 wd_8 wd_283 (by decide) (Nat.le_of_ble_eq_true rfl) dX3_readNumber_52 ?_
      refine rg_put (pc := 55) C 1 3 5 kd_1 (by decide) rfl inlX3 tyX3 tyX3_ok nmX3 (by decide) wd_31 rfl rfl rfl (Nat.le_of_ble_eq_true rfl) rfl dX3_readNumber_55 ?_
      refine rg_aload_n (pc := 58) C 0 rfl rfl dX3_readNumber_58 ?_
      refine rg_dup (pc := 59) C rfl dX3_readNumber_59 ?_
      refine rg_get (pc := 60) C 1 3 2 kd_1 (by decide) rfl inlX3 (by decide) wd_28 rfl dX3_readNumber_60 ?_
      refine rg_iconst (pc := 63) (v := 1) C dX3_readNumber_63 (by decide) ?_
      refine rg_iadd (pc := 64) C dX3_readNumber_64 ?_
      refine rg_put (pc := 65) C 1 3 2 kd_1 (by decide) rfl inlX3 tyX3 tyX3_ok nmX3 (by decide) wd_28 rfl rfl rfl (Nat.le_of_ble_eq_true rfl) rfl dX3_readNumber_65 ?_
      refine rg_goto (pc := 68) (tgt := 5) C dX3_readNumber_68 (by decide) ?_
      exact ih1 _ _ hf
set_option maxHeartbeats 4000000 in
theorem tX3_readNumber_2 {Z : ra_Z} {r : Int32} {w1 : ra_W} (C : ra_C Z cX3_readNumber 2 RX3 1 30) (hQ : ra_QV Z r w1) (hr : (zmt Z).sig.returnType = none) (k : Nat) (n : Nat) (ih3 : pX3_readNumber_3 Z r w1 k n) (ih4 : pX3_readNumber_4 Z r w1 k n) : pX3_readNumber_2 Z r w1 k (n + 1) := by
  intro s0 w hf
  rw [fX3_readNumber_2] at hf
  refine rg_aload_n (pc := 71) C 0 rfl rfl dX3_readNumber_71 ?_
  refine rg_aload_n (pc := 72) C 0 rfl rfl dX3_readNumber_72 ?_
  refine rg_get (pc := 73) C 1 3 3 kd_1 (by decide) rfl inlX3 (by decide) wd_29 rfl dX3_readNumber_73 ?_
  obtain ⟨r1, w2, e3, hf⟩ := ra_bd hf
  refine rg_callVI (pc := 76) (As := [.int (w 1 3)]) (st := []) C (kX3_letterAt (zl Z) (zG Z) C.hj k _ _ _ _ e3) kd_1 (by decide) rfl ysX3_letterAt rfl wd_270 ⟨Nat.le_of_ble_eq_true rfl, Nat.le_of_ble_eq_true rfl⟩ rfl (Nat.le_of_ble_eq_true rfl) dX3_readNumber_76 ?_
  refine rg_bipush (pc := 79) (v := 48) C dX3_readNumber_79 (by decide) ?_
  refine rg_icmp_ne (pc := 81) (tgt := 101) C dX3_readNumber_81 (by decide) (fun c4 => ?_) (fun c4 => ?_)
  · replace hf := ra_f hf c4
    exact ih3 _ _ hf
  · replace hf := ra_t hf c4
    refine rg_aload_n (pc := 84) C 0 rfl rfl dX3_readNumber_84 ?_
    refine rg_get (pc := 85) C 1 3 2 kd_1 (by decide) rfl inlX3 (by decide) wd_28 rfl dX3_readNumber_85 ?_
    refine rg_aload_n (pc := 88) C 0 rfl rfl dX3_readNumber_88 ?_
    refine rg_get (pc := 89) C 1 3 3 kd_1 (by decide) rfl inlX3 (by decide) wd_29 rfl dX3_readNumber_89 ?_
    refine rg_isub (pc := 92) C dX3_readNumber_92 ?_
    refine rg_iconst (pc := 93) (v := 1) C dX3_readNumber_93 (by decide) ?_
    refine rg_icmp_le (pc := 94) (tgt := 101) C dX3_readNumber_94 (by decide) (fun c5 => ?_) (fun c5 => ?_)
    · replace hf := ra_t hf c5
      exact ih3 _ _ hf
    · replace hf := ra_f hf c5
      refine rg_iconst (pc := 97) (v := 1) C dX3_readNumber_97 (by decide) ?_
      refine rg_goto (pc := 98) (tgt := 102) C dX3_readNumber_98 (by decide) ?_
      exact ih4 _ _ hf
set_option maxHeartbeats 4000000 in
theorem tX3_readNumber_3 {Z : ra_Z} {r : Int32} {w1 : ra_W} (C : ra_C Z cX3_readNumber 2 RX3 1 30) (hQ : ra_QV Z r w1) (hr : (zmt Z).sig.returnType = none) (k : Nat) (n : Nat) (ih4 : pX3_readNumber_4 Z r w1 k n) : pX3_readNumber_3 Z r w1 k (n + 1) := by
  intro s0 w hf
  rw [fX3_readNumber_3] at hf
  refine rg_iconst (pc := 101) (v := 0) C dX3_readNumber_101 (by decide) ?_
  exact ih4 _ _ hf
set_option maxHeartbeats 4000000 in
theorem tX3_readNumber_4 {Z : ra_Z} {r : Int32} {w1 : ra_W} (C : ra_C Z cX3_readNumber 2 RX3 1 30) (hQ : ra_QV Z r w1) (hr : (zmt Z).sig.returnType = none) (k : Nat) (n : Nat) (ih5 : pX3_readNumber_5 Z r w1 k n) (ih6 : pX3_readNumber_6 Z r w1 k n) : pX3_readNumber_4 Z r w1 k (n + 1) := by
  intro s0 w hf
  rw [fX3_readNumber_4] at hf
  refine rg_istore_n (pc := 102) (lv' := [(0, .ref ((zG Z).1 1)), (1, .int s0)]) C [1, 0] rfl rfl (by decide) dX3_readNumber_102 ?_
  refine rg_aload_n (pc := 103) C 0 rfl rfl dX3_readNumber_103 ?_
  refine rg_iload_n (pc := 104) C 1 rfl rfl dX3_readNumber_104 ?_
  refine rg_if_ne (pc := 105) (tgt := 117) C dX3_readNumber_105 (by decide) (fun c1 => ?_) (fun c1 => ?_)
  · replace hf := ra_f hf c1
    refine rg_sub [0] rfl ?_
    exact ih5 _ _ hf
  · replace hf := ra_t hf c1
    refine rg_aload_n (pc := 108) C 0 rfl rfl dX3_readNumber_108 ?_
    refine rg_get (pc := 109) C 1 3 5 kd_1 (by decide) rfl inlX3 (by decide) wd_31 rfl dX3_readNumber_109 ?_
    refine rg_bipush (pc := 112) (v := 99) C dX3_readNumber_112 (by decide) ?_
    refine rg_icmp_le (pc := 114) (tgt := 121) C dX3_readNumber_114 (by decide) (fun c2 => ?_) (fun c2 => ?_)
    · replace hf := ra_t hf c2
      refine rg_iconst (pc := 121) (v := 1) C dX3_readNumber_121 (by decide) ?_
      refine rg_sub [0] rfl ?_
      exact ih6 _ _ hf
    · replace hf := ra_f hf c2
      refine rg_sub [0] rfl ?_
      exact ih5 _ _ hf
set_option maxHeartbeats 4000000 in
theorem tX3_readNumber_5 {Z : ra_Z} {r : Int32} {w1 : ra_W} (C : ra_C Z cX3_readNumber 2 RX3 1 30) (hQ : ra_QV Z r w1) (hr : (zmt Z).sig.returnType = none) (k : Nat) (n : Nat) (ih6 : pX3_readNumber_6 Z r w1 k n) : pX3_readNumber_5 Z r w1 k (n + 1) := by
  intro s0 w hf
  rw [fX3_readNumber_5] at hf
  refine rg_iconst (pc := 117) (v := 2) C dX3_readNumber_117 (by decide) ?_
  refine rg_goto (pc := 118) (tgt := 122) C dX3_readNumber_118 (by decide) ?_
  exact ih6 _ _ hf
set_option maxHeartbeats 4000000 in
theorem tX3_readNumber_6 {Z : ra_Z} {r : Int32} {w1 : ra_W} (C : ra_C Z cX3_readNumber 2 RX3 1 30) (hQ : ra_QV Z r w1) (hr : (zmt Z).sig.returnType = none) (k : Nat) (n : Nat) : pX3_readNumber_6 Z r w1 k (n + 1) := by
  intro s0 w hf
  rw [fX3_readNumber_6] at hf
  refine rg_put (pc := 122) C 1 3 4 kd_1 (by decide) rfl inlX3 tyX3 tyX3_ok nmX3 (by decide) wd_30 rfl rfl rfl (Nat.le_of_ble_eq_true rfl) rfl dX3_readNumber_122 ?_
  exact rg_vret (pc := 125) C hQ hr hf dX3_readNumber_125
theorem tX3_readNumber {Z : ra_Z} {r : Int32} {w1 : ra_W} (C : ra_C Z cX3_readNumber 2 RX3 1 30) (hQ : ra_QV Z r w1) (hr : (zmt Z).sig.returnType = none) (k : Nat) : ∀ n : Nat, pX3_readNumber_0 Z r w1 k n ∧ pX3_readNumber_1 Z r w1 k n ∧ pX3_readNumber_2 Z r w1 k n ∧ pX3_readNumber_3 Z r w1 k n ∧ pX3_readNumber_4 Z r w1 k n ∧ pX3_readNumber_5 Z r w1 k n ∧ pX3_readNumber_6 Z r w1 k n := by
  intro n
  induction n with
  | zero => exact ⟨(fun _ _ h => by cases h), (fun _ _ h => by cases h), (fun _ _ h => by cases h), (fun _ _ h => by cases h), (fun _ _ h => by cases h), (fun _ _ h => by cases h), (fun _ _ h => by cases h)⟩
  | succ n ih =>
    obtain ⟨ih0, ih1, ih2, ih3, ih4, ih5, ih6⟩ := ih
    exact ⟨tX3_readNumber_0 C hQ hr k n ih1, tX3_readNumber_1 C hQ hr k n ih1 ih2, tX3_readNumber_2 C hQ hr k n ih3 ih4, tX3_readNumber_3 C hQ hr k n ih4, tX3_readNumber_4 C hQ hr k n ih5 ih6, tX3_readNumber_5 C hQ hr k n ih6, tX3_readNumber_6 C hQ hr k n⟩
theorem kX3_readNumber (l : Launch) (G : ra_G) (hj : ra_inj G) (k : Nat)  (w : ra_W) (r : Int32) (w1 : ra_W) (h : FX3_readNumber k  w = some (r, w1)) : ra_MV l G yX3_readNumber cX3_readNumber 2 none 1 30 [.ref (G.1 1)] w r w1 :=
  ra_entryV (own := RX3) (by decide) rfl (Nat.le_of_ble_eq_true rfl) hj (fun Z hl hG C hQ hr => by subst hl; subst hG; exact (tX3_readNumber C hQ hr k k).1 _ _ h)
theorem ysX3_readNumber : ra_YV yX3_readNumber cX3_readNumber 2 none 0 RX3 := ⟨⟨wd_2, wd_280, by decide, by decide, by decide⟩, wd_279, wp_2⟩
/-- TrunkRadio$Reader.readToken -/
def fX3_readToken (k : Nat) : Nat → Nat → Int32 → Int32 → ra_W → Option (Int32 × ra_W)
  | 0, _, _, _, _ => none
  | n + 1, L, v1, s0, w => match L with
    | 0 => if (w 1 0) ≤ (w 1 2) then (fX3_readToken k n 1 0 0 w) else (ra_bind (FX3_letterAt k (w 1 2) w) (fun r2 w3 => if r2 = 32 then (fX3_readToken k n 0 0 0 (ra_st w3 1 2 ((w3 1 2) + 1))) else (fX3_readToken k n 1 0 0 w3)))
    | 1 => if ((ra_st w 1 3 (w 1 2)) 1 2) < ((ra_st w 1 3 (w 1 2)) 1 0) then (ra_bind (FX3_letterAt k ((ra_st w 1 3 (w 1 2)) 1 2) (ra_st w 1 3 (w 1 2))) (fun r2 w3 => ra_bind (FX3_isDigit k r2 w3) (fun r5 w6 => if r5 = 0 then (if r2 = 99 then (fX3_readToken k n 2 r2 0 (ra_st w6 1 2 ((w6 1 2) + 1))) else (if r2 = 97 then (fX3_readToken k n 2 r2 0 (ra_st w6 1 2 ((w6 1 2) + 1))) else (if r2 = 119 then (fX3_readToken k n 2 r2 0 (ra_st w6 1 2 ((w6 1 2) + 1))) else (if r2 = 114 then (fX3_readToken k n 2 r2 0 (ra_st w6 1 2 ((w6 1 2) + 1))) else (if r2 = 59 then (fX3_readToken k n 2 r2 0 (ra_st w6 1 2 ((w6 1 2) + 1))) else (fX3_readToken k n 3 r2 0 (ra_st w6 1 2 ((w6 1 2) + 1)))))))) else (ra_bind (FX3_readNumber k w6) (fun _ w15 => some (0, w15)))))) else (some (0, (ra_st (ra_st w 1 3 (w 1 2)) 1 4 0)))
    | 2 => fX3_readToken k n 3 v1 1 w
    | 3 => if s0 = 0 then (fX3_readToken k n 4 0 2 w) else (fX3_readToken k n 4 0 v1 w)
    | _ => some (0, (ra_st w 1 4 s0))
theorem fX3_readToken_0 (k : Nat) (n : Nat) (v1 : Int32) (s0 : Int32) (w : ra_W) : fX3_readToken k (n + 1) 0 v1 s0 w = (if (w 1 0) ≤ (w 1 2) then (fX3_readToken k n 1 0 0 w) else (ra_bind (FX3_letterAt k (w 1 2) w) (fun r2 w3 => if r2 = 32 then (fX3_readToken k n 0 0 0 (ra_st w3 1 2 ((w3 1 2) + 1))) else (fX3_readToken k n 1 0 0 w3)))) := rfl
theorem fX3_readToken_1 (k : Nat) (n : Nat) (v1 : Int32) (s0 : Int32) (w : ra_W) : fX3_readToken k (n + 1) 1 v1 s0 w = (if ((ra_st w 1 3 (w 1 2)) 1 2) < ((ra_st w 1 3 (w 1 2)) 1 0) then (ra_bind (FX3_letterAt k ((ra_st w 1 3 (w 1 2)) 1 2) (ra_st w 1 3 (w 1 2))) (fun r2 w3 => ra_bind (FX3_isDigit k r2 w3) (fun r5 w6 => if r5 = 0 then (if r2 = 99 then (fX3_readToken k n 2 r2 0 (ra_st w6 1 2 ((w6 1 2) + 1))) else (if r2 = 97 then (fX3_readToken k n 2 r2 0 (ra_st w6 1 2 ((w6 1 2) + 1))) else (if r2 = 119 then (fX3_readToken k n 2 r2 0 (ra_st w6 1 2 ((w6 1 2) + 1))) else (if r2 = 114 then (fX3_readToken k n 2 r2 0 (ra_st w6 1 2 ((w6 1 2) + 1))) else (if r2 = 59 then (fX3_readToken k n 2 r2 0 (ra_st w6 1 2 ((w6 1 2) + 1))) else (fX3_readToken k n 3 r2 0 (ra_st w6 1 2 ((w6 1 2) + 1)))))))) else (ra_bind (FX3_readNumber k w6) (fun _ w15 => some (0, w15)))))) else (some (0, (ra_st (ra_st w 1 3 (w 1 2)) 1 4 0)))) := rfl
theorem fX3_readToken_2 (k : Nat) (n : Nat) (v1 : Int32) (s0 : Int32) (w : ra_W) : fX3_readToken k (n + 1) 2 v1 s0 w = (fX3_readToken k n 3 v1 1 w) := rfl
theorem fX3_readToken_3 (k : Nat) (n : Nat) (v1 : Int32) (s0 : Int32) (w : ra_W) : fX3_readToken k (n + 1) 3 v1 s0 w = (if s0 = 0 then (fX3_readToken k n 4 0 2 w) else (fX3_readToken k n 4 0 v1 w)) := rfl
theorem fX3_readToken_4 (k : Nat) (n : Nat) (v1 : Int32) (s0 : Int32) (w : ra_W) : fX3_readToken k (n + 1) 4 v1 s0 w = (some (0, (ra_st w 1 4 s0))) := rfl
def FX3_readToken (k : Nat)  (w : ra_W) : Option (Int32 × ra_W) := fX3_readToken k k 0 0 0 w
def pX3_readToken_0 (Z : ra_Z) (r : Int32) (w1 : ra_W) (k : Nat) (n : Nat) : Prop := ∀ (v1 : Int32) (s0 : Int32) (w : ra_W), fX3_readToken k n 0 v1 s0 w = some (r, w1) → ra_J Z 3 0 [(0, .ref ((zG Z).1 1))] [] w
def pX3_readToken_1 (Z : ra_Z) (r : Int32) (w1 : ra_W) (k : Nat) (n : Nat) : Prop := ∀ (v1 : Int32) (s0 : Int32) (w : ra_W), fX3_readToken k n 1 v1 s0 w = some (r, w1) → ra_J Z 3 37 [(0, .ref ((zG Z).1 1))] [] w
def pX3_readToken_2 (Z : ra_Z) (r : Int32) (w1 : ra_W) (k : Nat) (n : Nat) : Prop := ∀ (v1 : Int32) (s0 : Int32) (w : ra_W), fX3_readToken k n 2 v1 s0 w = some (r, w1) → ra_J Z 3 123 [(0, .ref ((zG Z).1 1)), (1, .int v1)] [] w
def pX3_readToken_3 (Z : ra_Z) (r : Int32) (w1 : ra_W) (k : Nat) (n : Nat) : Prop := ∀ (v1 : Int32) (s0 : Int32) (w : ra_W), fX3_readToken k n 3 v1 s0 w = some (r, w1) → ra_J Z 3 128 [(0, .ref ((zG Z).1 1)), (1, .int v1)] [.int s0] w
def pX3_readToken_4 (Z : ra_Z) (r : Int32) (w1 : ra_W) (k : Nat) (n : Nat) : Prop := ∀ (v1 : Int32) (s0 : Int32) (w : ra_W), fX3_readToken k n 4 v1 s0 w = some (r, w1) → ra_J Z 3 139 [(0, .ref ((zG Z).1 1))] [.int s0, .ref ((zG Z).1 1)] w
set_option maxHeartbeats 4000000 in
theorem tX3_readToken_0 {Z : ra_Z} {r : Int32} {w1 : ra_W} (C : ra_C Z cX3_readToken 3 RX3 2 51) (hQ : ra_QV Z r w1) (hr : (zmt Z).sig.returnType = none) (k : Nat) (n : Nat) (ih0 : pX3_readToken_0 Z r w1 k n) (ih1 : pX3_readToken_1 Z r w1 k n) : pX3_readToken_0 Z r w1 k (n + 1) := by
  intro v1 s0 w hf
  rw [fX3_readToken_0] at hf
  refine rg_aload_n (pc := 0) C 0 rfl rfl dX3_readToken_0 ?_
  refine rg_get (pc := 1) C 1 3 2 kd_1 (by decide) rfl inlX3 (by decide) wd_28 rfl dX3_readToken_1 ?_
  refine rg_aload_n (pc := 4) C 0 rfl rfl dX3_readToken_4 ?_
  refine rg_get (pc := 5) C 1 3 0 kd_1 (by decide) rfl inlX3 (by decide) wd_25 rfl dX3_readToken_5 ?_
  refine rg_icmp_ge (pc := 8) (tgt := 37) C dX3_readToken_8 (by decide) (fun c1 => ?_) (fun c1 => ?_)
  · replace hf := ra_t hf c1
    exact ih1 _ _ _ hf
  · replace hf := ra_f hf c1
    refine rg_aload_n (pc := 11) C 0 rfl rfl dX3_readToken_11 ?_
    refine rg_aload_n (pc := 12) C 0 rfl rfl dX3_readToken_12 ?_
    refine rg_get (pc := 13) C 1 3 2 kd_1 (by decide) rfl inlX3 (by decide) wd_28 rfl dX3_readToken_13 ?_
    obtain ⟨r2, w3, e4, hf⟩ := ra_bd hf
    refine rg_callVI (pc := 16) (As := [.int (w 1 2)]) (st := []) C (kX3_letterAt (zl Z) (zG Z) C.hj k _ _ _ _ e4) kd_1 (by decide) rfl ysX3_letterAt rfl wd_270 ⟨Nat.le_of_ble_eq_true rfl, Nat.le_of_ble_eq_true rfl⟩ rfl (Nat.le_of_ble_eq_true rfl) dX3_readToken_16 ?_
    refine rg_bipush (pc := 19) (v := 32) C dX3_readToken_19 (by decide) ?_
    refine rg_icmp_ne (pc := 21) (tgt := 37) C dX3_readToken_21 (by decide) (fun c5 => ?_) (fun c5 => ?_)
    · replace hf := ra_f hf c5
      exact ih1 _ _ _ hf
    · replace hf := ra_t hf c5
      refine rg_aload_n (pc := 24) C 0 rfl rfl dX3_readToken_24 ?_
      refine rg_dup (pc := 25) C rfl dX3_readToken_25 ?_
      refine rg_get (pc := 26) C 1 3 2 kd_1 (by decide) rfl inlX3 (by decide) wd_28 rfl dX3_readToken_26 ?_
      refine rg_iconst (pc := 29) (v := 1) C dX3_readToken_29 (by decide) ?_
      refine rg_iadd (pc := 30) C dX3_readToken_30 ?_
      refine rg_put (pc := 31) C 1 3 2 kd_1 (by decide) rfl inlX3 tyX3 tyX3_ok nmX3 (by decide) wd_28 rfl rfl rfl (Nat.le_of_ble_eq_true rfl) rfl dX3_readToken_31 ?_
      refine rg_goto (pc := 34) (tgt := 0) C dX3_readToken_34 (by decide) ?_
      exact ih0 _ _ _ hf
set_option maxHeartbeats 4000000 in
theorem tX3_readToken_1 {Z : ra_Z} {r : Int32} {w1 : ra_W} (C : ra_C Z cX3_readToken 3 RX3 2 51) (hQ : ra_QV Z r w1) (hr : (zmt Z).sig.returnType = none) (k : Nat) (n : Nat) (ih2 : pX3_readToken_2 Z r w1 k n) (ih3 : pX3_readToken_3 Z r w1 k n) : pX3_readToken_1 Z r w1 k (n + 1) := by
  intro v1 s0 w hf
  rw [fX3_readToken_1] at hf
  refine rg_aload_n (pc := 37) C 0 rfl rfl dX3_readToken_37 ?_
  refine rg_aload_n (pc := 38) C 0 rfl rfl dX3_readToken_38 ?_
  refine rg_get (pc := 39) C 1 3 2 kd_1 (by decide) rfl inlX3 (by decide) wd_28 rfl dX3_readToken_39 ?_
  refine rg_put (pc := 42) C 1 3 3 kd_1 (by decide) rfl inlX3 tyX3 tyX3_ok nmX3 (by decide) wd_29 rfl rfl rfl (Nat.le_of_ble_eq_true rfl) rfl dX3_readToken_42 ?_
  refine rg_aload_n (pc := 45) C 0 rfl rfl dX3_readToken_45 ?_
  refine rg_get (pc := 46) C 1 3 2 kd_1 (by decide) rfl inlX3 (by decide) wd_28 rfl dX3_readToken_46 ?_
  refine rg_aload_n (pc := 49) C 0 rfl rfl dX3_readToken_49 ?_
  refine rg_get (pc := 50) C 1 3 0 kd_1 (by decide) rfl inlX3 (by decide) wd_25 rfl dX3_readToken_50 ?_
  refine rg_icmp_lt (pc := 53) (tgt := 62) C dX3_readToken_53 (by decide) (fun c1 => ?_) (fun c1 => ?_)
  · replace hf := ra_t hf c1
    refine rg_aload_n (pc := 62) C 0 rfl rfl dX3_readToken_62 ?_
    refine rg_aload_n (pc := 63) C 0 rfl rfl dX3_readToken_63 ?_
    refine rg_get (pc := 64) C 1 3 2 kd_1 (by decide) rfl inlX3 (by decide) wd_28 rfl dX3_readToken_64 ?_
    obtain ⟨r2, w3, e4, hf⟩ := ra_bd hf
    refine rg_callVI (pc := 67) (As := [.int ((ra_st w 1 3 (w 1 2)) 1 2)]) (st := []) C (kX3_letterAt (zl Z) (zG Z) C.hj k _ _ _ _ e4) kd_1 (by decide) rfl ysX3_letterAt rfl wd_270 ⟨Nat.le_of_ble_eq_true rfl, Nat.le_of_ble_eq_true rfl⟩ rfl (Nat.le_of_ble_eq_true rfl) dX3_readToken_67 ?_
    refine rg_istore_n (pc := 70) (lv' := [(0, .ref ((zG Z).1 1)), (1, .int r2)]) C [1, 0] rfl rfl (by decide) dX3_readToken_70 ?_
    refine rg_iload_n (pc := 71) C 1 rfl rfl dX3_readToken_71 ?_
    obtain ⟨r5, w6, e7, hf⟩ := ra_bd hf
    refine rg_callSI (pc := 72) (As := [.int r2]) (st := []) C (kX3_isDigit (zl Z) (zG Z) C.hj k _ _ _ _ e7) ysX3_isDigit rfl wd_274 ⟨Nat.le_of_ble_eq_true rfl, Nat.le_of_ble_eq_true rfl⟩ rfl (Nat.le_of_ble_eq_true rfl) dX3_readToken_72 ?_
    refine rg_if_eq (pc := 75) (tgt := 83) C dX3_readToken_75 (by decide) (fun c8 => ?_) (fun c8 => ?_)
    · replace hf := ra_t hf c8
      refine rg_aload_n (pc := 83) C 0 rfl rfl dX3_readToken_83 ?_
      refine rg_dup (pc := 84) C rfl dX3_readToken_84 ?_
      refine rg_get (pc := 85) C 1 3 2 kd_1 (by decide) rfl inlX3 (by decide) wd_28 rfl dX3_readToken_85 ?_
      refine rg_iconst (pc := 88) (v := 1) C dX3_readToken_88 (by decide) ?_
      refine rg_iadd (pc := 89) C dX3_readToken_89 ?_
      refine rg_put (pc := 90) C 1 3 2 kd_1 (by decide) rfl inlX3 tyX3 tyX3_ok nmX3 (by decide) wd_28 rfl rfl rfl (Nat.le_of_ble_eq_true rfl) rfl dX3_readToken_90 ?_
      refine rg_iload_n (pc := 93) C 1 rfl rfl dX3_readToken_93 ?_
      refine rg_bipush (pc := 94) (v := 99) C dX3_readToken_94 (by decide) ?_
      refine rg_icmp_eq (pc := 96) (tgt := 123) C dX3_readToken_96 (by decide) (fun c9 => ?_) (fun c9 => ?_)
      · replace hf := ra_t hf c9
        exact ih2 _ _ _ hf
      · replace hf := ra_f hf c9
        refine rg_iload_n (pc := 99) C 1 rfl rfl dX3_readToken_99 ?_
        refine rg_bipush (pc := 100) (v := 97) C dX3_readToken_100 (by decide) ?_
        refine rg_icmp_eq (pc := 102) (tgt := 123) C dX3_readToken_102 (by decide) (fun c10 => ?_) (fun c10 => ?_)
        · replace hf := ra_t hf c10
          exact ih2 _ _ _ hf
        · replace hf := ra_f hf c10
          refine rg_iload_n (pc := 105) C 1 rfl rfl dX3_readToken_105 ?_
          refine rg_bipush (pc := 106) (v := 119) C dX3_readToken_106 (by decide) ?_
          refine rg_icmp_eq (pc := 108) (tgt := 123) C dX3_readToken_108 (by decide) (fun c11 => ?_) (fun c11 => ?_)
          · replace hf := ra_t hf c11
            exact ih2 _ _ _ hf
          · replace hf := ra_f hf c11
            refine rg_iload_n (pc := 111) C 1 rfl rfl dX3_readToken_111 ?_
            refine rg_bipush (pc := 112) (v := 114) C dX3_readToken_112 (by decide) ?_
            refine rg_icmp_eq (pc := 114) (tgt := 123) C dX3_readToken_114 (by decide) (fun c12 => ?_) (fun c12 => ?_)
            · replace hf := ra_t hf c12
              exact ih2 _ _ _ hf
            · replace hf := ra_f hf c12
              refine rg_iload_n (pc := 117) C 1 rfl rfl dX3_readToken_117 ?_
              refine rg_bipush (pc := 118) (v := 59) C dX3_readToken_118 (by decide) ?_
              refine rg_icmp_ne (pc := 120) (tgt := 127) C dX3_readToken_120 (by decide) (fun c13 => ?_) (fun c13 => ?_)
              · replace hf := ra_f hf c13
                refine rg_iconst (pc := 127) (v := 0) C dX3_readToken_127 (by decide) ?_
                exact ih3 _ _ _ hf
              · replace hf := ra_t hf c13
                exact ih2 _ _ _ hf
    · replace hf := ra_f hf c8
      refine rg_aload_n (pc := 78) C 0 rfl rfl dX3_readToken_78 ?_
      obtain ⟨r14, w15, e16, hf⟩ := ra_bd hf
      refine rg_callVV (pc := 79) (As := []) (st := []) C (kX3_readNumber (zl Z) (zG Z) C.hj k _ _ _ e16) kd_1 (by decide) rfl ysX3_readNumber rfl wd_277 ⟨Nat.le_of_ble_eq_true rfl, Nat.le_of_ble_eq_true rfl⟩ rfl (Nat.le_of_ble_eq_true rfl) dX3_readToken_79 ?_
      exact rg_vret (pc := 82) C hQ hr hf dX3_readToken_82
  · replace hf := ra_f hf c1
    refine rg_aload_n (pc := 56) C 0 rfl rfl dX3_readToken_56 ?_
    refine rg_iconst (pc := 57) (v := 0) C dX3_readToken_57 (by decide) ?_
    refine rg_put (pc := 58) C 1 3 4 kd_1 (by decide) rfl inlX3 tyX3 tyX3_ok nmX3 (by decide) wd_30 rfl rfl rfl (Nat.le_of_ble_eq_true rfl) rfl dX3_readToken_58 ?_
    exact rg_vret (pc := 61) C hQ hr hf dX3_readToken_61
set_option maxHeartbeats 4000000 in
theorem tX3_readToken_2 {Z : ra_Z} {r : Int32} {w1 : ra_W} (C : ra_C Z cX3_readToken 3 RX3 2 51) (hQ : ra_QV Z r w1) (hr : (zmt Z).sig.returnType = none) (k : Nat) (n : Nat) (ih3 : pX3_readToken_3 Z r w1 k n) : pX3_readToken_2 Z r w1 k (n + 1) := by
  intro v1 s0 w hf
  rw [fX3_readToken_2] at hf
  refine rg_iconst (pc := 123) (v := 1) C dX3_readToken_123 (by decide) ?_
  refine rg_goto (pc := 124) (tgt := 128) C dX3_readToken_124 (by decide) ?_
  exact ih3 _ _ _ hf
set_option maxHeartbeats 4000000 in
theorem tX3_readToken_3 {Z : ra_Z} {r : Int32} {w1 : ra_W} (C : ra_C Z cX3_readToken 3 RX3 2 51) (hQ : ra_QV Z r w1) (hr : (zmt Z).sig.returnType = none) (k : Nat) (n : Nat) (ih4 : pX3_readToken_4 Z r w1 k n) : pX3_readToken_3 Z r w1 k (n + 1) := by
  intro v1 s0 w hf
  rw [fX3_readToken_3] at hf
  refine rg_istore_n (pc := 128) (lv' := [(0, .ref ((zG Z).1 1)), (1, .int v1), (2, .int s0)]) C [1, 2, 0] rfl rfl (by decide) dX3_readToken_128 ?_
  refine rg_aload_n (pc := 129) C 0 rfl rfl dX3_readToken_129 ?_
  refine rg_iload_n (pc := 130) C 2 rfl rfl dX3_readToken_130 ?_
  refine rg_if_eq (pc := 131) (tgt := 138) C dX3_readToken_131 (by decide) (fun c1 => ?_) (fun c1 => ?_)
  · replace hf := ra_t hf c1
    refine rg_iconst (pc := 138) (v := 2) C dX3_readToken_138 (by decide) ?_
    refine rg_sub [0] rfl ?_
    exact ih4 _ _ _ hf
  · replace hf := ra_f hf c1
    refine rg_iload_n (pc := 134) C 1 rfl rfl dX3_readToken_134 ?_
    refine rg_goto (pc := 135) (tgt := 139) C dX3_readToken_135 (by decide) ?_
    refine rg_sub [0] rfl ?_
    exact ih4 _ _ _ hf
set_option maxHeartbeats 4000000 in
theorem tX3_readToken_4 {Z : ra_Z} {r : Int32} {w1 : ra_W} (C : ra_C Z cX3_readToken 3 RX3 2 51) (hQ : ra_QV Z r w1) (hr : (zmt Z).sig.returnType = none) (k : Nat) (n : Nat) : pX3_readToken_4 Z r w1 k (n + 1) := by
  intro v1 s0 w hf
  rw [fX3_readToken_4] at hf
  refine rg_put (pc := 139) C 1 3 4 kd_1 (by decide) rfl inlX3 tyX3 tyX3_ok nmX3 (by decide) wd_30 rfl rfl rfl (Nat.le_of_ble_eq_true rfl) rfl dX3_readToken_139 ?_
  exact rg_vret (pc := 142) C hQ hr hf dX3_readToken_142
theorem tX3_readToken {Z : ra_Z} {r : Int32} {w1 : ra_W} (C : ra_C Z cX3_readToken 3 RX3 2 51) (hQ : ra_QV Z r w1) (hr : (zmt Z).sig.returnType = none) (k : Nat) : ∀ n : Nat, pX3_readToken_0 Z r w1 k n ∧ pX3_readToken_1 Z r w1 k n ∧ pX3_readToken_2 Z r w1 k n ∧ pX3_readToken_3 Z r w1 k n ∧ pX3_readToken_4 Z r w1 k n := by
  intro n
  induction n with
  | zero => exact ⟨(fun _ _ _ h => by cases h), (fun _ _ _ h => by cases h), (fun _ _ _ h => by cases h), (fun _ _ _ h => by cases h), (fun _ _ _ h => by cases h)⟩
  | succ n ih =>
    obtain ⟨ih0, ih1, ih2, ih3, ih4⟩ := ih
    exact ⟨tX3_readToken_0 C hQ hr k n ih0 ih1, tX3_readToken_1 C hQ hr k n ih2 ih3, tX3_readToken_2 C hQ hr k n ih3, tX3_readToken_3 C hQ hr k n ih4, tX3_readToken_4 C hQ hr k n⟩
theorem kX3_readToken (l : Launch) (G : ra_G) (hj : ra_inj G) (k : Nat)  (w : ra_W) (r : Int32) (w1 : ra_W) (h : FX3_readToken k  w = some (r, w1)) : ra_MV l G yX3_readToken cX3_readToken 3 none 2 51 [.ref (G.1 1)] w r w1 :=
  ra_entryV (own := RX3) (by decide) rfl (Nat.le_of_ble_eq_true rfl) hj (fun Z hl hG C hQ hr => by subst hl; subst hG; exact (tX3_readToken C hQ hr k k).1 _ _ _ h)
theorem ysX3_readToken : ra_YV yX3_readToken cX3_readToken 3 none 0 RX3 := ⟨⟨wd_2, wd_269, by decide, by decide, by decide⟩, wd_268, wp_0⟩
/-- TrunkRadio$Reader.isNumberFrom -/
def fX3_isNumberFrom (k : Nat) : Nat → Nat → Int32 → Int32 → ra_W → Option (Int32 × ra_W)
  | 0, _, _, _, _ => none
  | n + 1, L, v1, v2, w => match L with
    | _ => ra_bind (FX3_readToken k w) (fun _ w2 => if (w2 1 4) = 1 then (if (w2 1 5) < v1 then (some (0, w2)) else (if v2 < (w2 1 5) then (some (0, w2)) else (some (1, w2)))) else (some (0, w2)))
theorem fX3_isNumberFrom_0 (k : Nat) (n : Nat) (v1 : Int32) (v2 : Int32) (w : ra_W) : fX3_isNumberFrom k (n + 1) 0 v1 v2 w = (ra_bind (FX3_readToken k w) (fun _ w2 => if (w2 1 4) = 1 then (if (w2 1 5) < v1 then (some (0, w2)) else (if v2 < (w2 1 5) then (some (0, w2)) else (some (1, w2)))) else (some (0, w2)))) := rfl
def FX3_isNumberFrom (k : Nat) (v1 : Int32) (v2 : Int32) (w : ra_W) : Option (Int32 × ra_W) := fX3_isNumberFrom k k 0 v1 v2 w
def pX3_isNumberFrom_0 (Z : ra_Z) (r : Int32) (w1 : ra_W) (k : Nat) (n : Nat) : Prop := ∀ (v1 : Int32) (v2 : Int32) (w : ra_W), fX3_isNumberFrom k n 0 v1 v2 w = some (r, w1) → ra_J Z 3 0 [(0, .ref ((zG Z).1 1)), (1, .int v1), (2, .int v2)] [] w
set_option maxHeartbeats 4000000 in
theorem tX3_isNumberFrom_0 {Z : ra_Z} {r : Int32} {w1 : ra_W} (C : ra_C Z cX3_isNumberFrom 3 RX3 3 73) (hQ : ra_QI Z r w1) (hr : (zmt Z).sig.returnType = (some .boolean)) (k : Nat) (n : Nat) : pX3_isNumberFrom_0 Z r w1 k (n + 1) := by
  intro v1 v2 w hf
  rw [fX3_isNumberFrom_0] at hf
  refine rg_aload_n (pc := 0) C 0 rfl rfl dX3_isNumberFrom_0 ?_
  obtain ⟨r1, w2, e3, hf⟩ := ra_bd hf
  refine rg_callVV (pc := 1) (As := []) (st := []) C (kX3_readToken (zl Z) (zG Z) C.hj k _ _ _ e3) kd_1 (by decide) rfl ysX3_readToken rfl wd_266 ⟨Nat.le_of_ble_eq_true rfl, Nat.le_of_ble_eq_true rfl⟩ rfl (Nat.le_of_ble_eq_true rfl) dX3_isNumberFrom_1 ?_
  refine rg_aload_n (pc := 4) C 0 rfl rfl dX3_isNumberFrom_4 ?_
  refine rg_get (pc := 5) C 1 3 4 kd_1 (by decide) rfl inlX3 (by decide) wd_30 rfl dX3_isNumberFrom_5 ?_
  refine rg_iconst (pc := 8) (v := 1) C dX3_isNumberFrom_8 (by decide) ?_
  refine rg_icmp_ne (pc := 9) (tgt := 32) C dX3_isNumberFrom_9 (by decide) (fun c4 => ?_) (fun c4 => ?_)
  · replace hf := ra_f hf c4
    refine rg_iconst (pc := 32) (v := 0) C dX3_isNumberFrom_32 (by decide) ?_
    exact rg_zret (pc := 33) C hQ hr (by decide) hf dX3_isNumberFrom_33
  · replace hf := ra_t hf c4
    refine rg_aload_n (pc := 12) C 0 rfl rfl dX3_isNumberFrom_12 ?_
    refine rg_get (pc := 13) C 1 3 5 kd_1 (by decide) rfl inlX3 (by decide) wd_31 rfl dX3_isNumberFrom_13 ?_
    refine rg_iload_n (pc := 16) C 1 rfl rfl dX3_isNumberFrom_16 ?_
    refine rg_icmp_lt (pc := 17) (tgt := 32) C dX3_isNumberFrom_17 (by decide) (fun c5 => ?_) (fun c5 => ?_)
    · replace hf := ra_t hf c5
      refine rg_iconst (pc := 32) (v := 0) C dX3_isNumberFrom_32 (by decide) ?_
      exact rg_zret (pc := 33) C hQ hr (by decide) hf dX3_isNumberFrom_33
    · replace hf := ra_f hf c5
      refine rg_aload_n (pc := 20) C 0 rfl rfl dX3_isNumberFrom_20 ?_
      refine rg_get (pc := 21) C 1 3 5 kd_1 (by decide) rfl inlX3 (by decide) wd_31 rfl dX3_isNumberFrom_21 ?_
      refine rg_iload_n (pc := 24) C 2 rfl rfl dX3_isNumberFrom_24 ?_
      refine rg_icmp_gt (pc := 25) (tgt := 32) C dX3_isNumberFrom_25 (by decide) (fun c6 => ?_) (fun c6 => ?_)
      · replace hf := ra_t hf c6
        refine rg_iconst (pc := 32) (v := 0) C dX3_isNumberFrom_32 (by decide) ?_
        exact rg_zret (pc := 33) C hQ hr (by decide) hf dX3_isNumberFrom_33
      · replace hf := ra_f hf c6
        refine rg_iconst (pc := 28) (v := 1) C dX3_isNumberFrom_28 (by decide) ?_
        refine rg_goto (pc := 29) (tgt := 33) C dX3_isNumberFrom_29 (by decide) ?_
        exact rg_zret (pc := 33) C hQ hr (by decide) hf dX3_isNumberFrom_33
theorem tX3_isNumberFrom {Z : ra_Z} {r : Int32} {w1 : ra_W} (C : ra_C Z cX3_isNumberFrom 3 RX3 3 73) (hQ : ra_QI Z r w1) (hr : (zmt Z).sig.returnType = (some .boolean)) (k : Nat) : ∀ n : Nat, pX3_isNumberFrom_0 Z r w1 k n := by
  intro n
  induction n with
  | zero => exact (fun _ _ _ h => by cases h)
  | succ n ih => exact tX3_isNumberFrom_0 C hQ hr k n
theorem kX3_isNumberFrom (l : Launch) (G : ra_G) (hj : ra_inj G) (k : Nat) (v1 : Int32) (v2 : Int32) (w : ra_W) (r : Int32) (w1 : ra_W) (h : FX3_isNumberFrom k v1 v2 w = some (r, w1)) : ra_MI l G yX3_isNumberFrom cX3_isNumberFrom 3 (some .boolean) 3 73 [.ref (G.1 1), .int v1, .int v2] w r w1 :=
  ra_entryI (own := RX3) (by decide) rfl (Nat.le_of_ble_eq_true rfl) hj (fun Z hl hG C hQ hr => by subst hl; subst hG; exact (tX3_isNumberFrom C hQ hr k k) _ _ _ h)
theorem ysX3_isNumberFrom : ra_YV yX3_isNumberFrom cX3_isNumberFrom 3 (some .boolean) 2 RX3 := ⟨⟨wd_2, wd_295, by decide, by decide, by decide⟩, wd_294, wp_5⟩
/-- TrunkRadio$Reader.readChannels -/
def fX3_readChannels (k : Nat) (b1 : Nat) : Nat → Nat → Int32 → ra_W → Option (Int32 × ra_W)
  | 0, _, _, _ => none
  | n + 1, L, v2, w => match L with
    | 0 => fX3_readChannels k b1 n 1 0 (ra_st w 1 6 1)
    | _ => if 2 ≤ v2 then (some (1, w)) else (ra_bind (FX3_isNumberFrom k 1 3 w) (fun r2 w3 => if r2 = 0 then (some (0, w3)) else (if ra_in v2 2 then fX3_readChannels k b1 n 1 (v2 + 1) (ra_st w3 (b1 + 1) (ra_ix v2) (w3 1 5)) else none)))
theorem fX3_readChannels_0 (k : Nat) (b1 : Nat) (n : Nat) (v2 : Int32) (w : ra_W) : fX3_readChannels k b1 (n + 1) 0 v2 w = (fX3_readChannels k b1 n 1 0 (ra_st w 1 6 1)) := rfl
theorem fX3_readChannels_1 (k : Nat) (b1 : Nat) (n : Nat) (v2 : Int32) (w : ra_W) : fX3_readChannels k b1 (n + 1) 1 v2 w = (if 2 ≤ v2 then (some (1, w)) else (ra_bind (FX3_isNumberFrom k 1 3 w) (fun r2 w3 => if r2 = 0 then (some (0, w3)) else (if ra_in v2 2 then fX3_readChannels k b1 n 1 (v2 + 1) (ra_st w3 (b1 + 1) (ra_ix v2) (w3 1 5)) else none)))) := rfl
def FX3_readChannels (k : Nat) (b1 : Nat)  (w : ra_W) : Option (Int32 × ra_W) := fX3_readChannels k b1 k 0 0 w
def pX3_readChannels_0 (Z : ra_Z) (r : Int32) (w1 : ra_W) (k : Nat) (b1 : Nat) (n : Nat) : Prop := ∀ (v2 : Int32) (w : ra_W), fX3_readChannels k b1 n 0 v2 w = some (r, w1) → ra_J Z 3 0 [(0, .ref ((zG Z).1 1)), (1, .ref ((zG Z).1 b1))] [] w
def pX3_readChannels_1 (Z : ra_Z) (r : Int32) (w1 : ra_W) (k : Nat) (b1 : Nat) (n : Nat) : Prop := ∀ (v2 : Int32) (w : ra_W), fX3_readChannels k b1 n 1 v2 w = some (r, w1) → ra_J Z 3 7 [(0, .ref ((zG Z).1 1)), (1, .ref ((zG Z).1 b1)), (2, .int v2)] [] w
set_option maxHeartbeats 4000000 in
theorem tX3_readChannels_0 {Z : ra_Z} {r : Int32} {w1 : ra_W} (C : ra_C Z cX3_readChannels 3 RX3 4 95) (hQ : ra_QI Z r w1) (hr : (zmt Z).sig.returnType = (some .boolean)) (k : Nat) (b1 : Nat) (h1 : ra_N b1) (n : Nat) (ih1 : pX3_readChannels_1 Z r w1 k b1 n) : pX3_readChannels_0 Z r w1 k b1 (n + 1) := by
  intro v2 w hf
  rw [fX3_readChannels_0] at hf
  refine rg_aload_n (pc := 0) C 0 rfl rfl dX3_readChannels_0 ?_
  refine rg_iconst (pc := 1) (v := 1) C dX3_readChannels_1 (by decide) ?_
  refine rg_put (pc := 2) C 1 3 6 kd_1 (by decide) rfl inlX3 tyX3 tyX3_ok nmX3 (by decide) wd_32 rfl rfl rfl (Nat.le_of_ble_eq_true rfl) rfl dX3_readChannels_2 ?_
  refine rg_iconst (pc := 5) (v := 0) C dX3_readChannels_5 (by decide) ?_
  refine rg_istore_n (pc := 6) (lv' := [(0, .ref ((zG Z).1 1)), (1, .ref ((zG Z).1 b1)), (2, .int 0)]) C [1, 2, 0] rfl rfl (by decide) dX3_readChannels_6 ?_
  exact ih1 _ _ hf
set_option maxHeartbeats 4000000 in
theorem tX3_readChannels_1 {Z : ra_Z} {r : Int32} {w1 : ra_W} (C : ra_C Z cX3_readChannels 3 RX3 4 95) (hQ : ra_QI Z r w1) (hr : (zmt Z).sig.returnType = (some .boolean)) (k : Nat) (b1 : Nat) (h1 : ra_N b1) (n : Nat) (ih1 : pX3_readChannels_1 Z r w1 k b1 n) : pX3_readChannels_1 Z r w1 k b1 (n + 1) := by
  intro v2 w hf
  rw [fX3_readChannels_1] at hf
  refine rg_iload_n (pc := 7) C 2 rfl rfl dX3_readChannels_7 ?_
  refine rg_iconst (pc := 8) (v := 2) C dX3_readChannels_8 (by decide) ?_
  refine rg_icmp_ge (pc := 9) (tgt := 39) C dX3_readChannels_9 (by decide) (fun c1 => ?_) (fun c1 => ?_)
  · replace hf := ra_t hf c1
    refine rg_iconst (pc := 39) (v := 1) C dX3_readChannels_39 (by decide) ?_
    exact rg_zret (pc := 40) C hQ hr (by decide) hf dX3_readChannels_40
  · replace hf := ra_f hf c1
    refine rg_aload_n (pc := 12) C 0 rfl rfl dX3_readChannels_12 ?_
    refine rg_iconst (pc := 13) (v := 1) C dX3_readChannels_13 (by decide) ?_
    refine rg_iconst (pc := 14) (v := 3) C dX3_readChannels_14 (by decide) ?_
    obtain ⟨r2, w3, e4, hf⟩ := ra_bd hf
    refine rg_callVI (pc := 15) (As := [.int 1, .int 3]) (st := []) C (kX3_isNumberFrom (zl Z) (zG Z) C.hj k _ _ _ _ _ e4) kd_1 (by decide) rfl ysX3_isNumberFrom rfl wd_292 ⟨Nat.le_of_ble_eq_true rfl, Nat.le_of_ble_eq_true rfl⟩ rfl (Nat.le_of_ble_eq_true rfl) dX3_readChannels_15 ?_
    refine rg_if_ne (pc := 18) (tgt := 23) C dX3_readChannels_18 (by decide) (fun c5 => ?_) (fun c5 => ?_)
    · replace hf := ra_f hf c5
      refine rg_aload_n (pc := 23) C 1 rfl rfl dX3_readChannels_23 ?_
      refine rg_get (pc := 24) C b1 2 3 h1.1 (by decide) rfl inlX2 (by decide) wd_81 rfl dX3_readChannels_24 ?_
      refine rg_iload_n (pc := 27) C 2 rfl rfl dX3_readChannels_27 ?_
      refine rg_aload_n (pc := 28) C 0 rfl rfl dX3_readChannels_28 ?_
      refine rg_get (pc := 29) C 1 3 5 kd_1 (by decide) rfl inlX3 (by decide) wd_31 rfl dX3_readChannels_29 ?_
      obtain ⟨g6, hf⟩ := ra_gd hf
      refine rg_iast (pc := 32) (j := (ra_ix v2)) C (b1 + 1) h1.2.1 rfl g6 dX3_readChannels_32 ?_
      refine rg_iinc (pc := 33) (v := (v2 + 1)) (lv' := [(0, .ref ((zG Z).1 1)), (1, .ref ((zG Z).1 b1)), (2, .int (v2 + 1))]) C 2 rfl [1, 2, 0] (ra_ii (by decide)) rfl (by decide) dX3_readChannels_33 ?_
      refine rg_goto (pc := 36) (tgt := 7) C dX3_readChannels_36 (by decide) ?_
      exact ih1 _ _ hf
    · replace hf := ra_t hf c5
      refine rg_iconst (pc := 21) (v := 0) C dX3_readChannels_21 (by decide) ?_
      exact rg_zret (pc := 22) C hQ hr (by decide) hf dX3_readChannels_22
theorem tX3_readChannels {Z : ra_Z} {r : Int32} {w1 : ra_W} (C : ra_C Z cX3_readChannels 3 RX3 4 95) (hQ : ra_QI Z r w1) (hr : (zmt Z).sig.returnType = (some .boolean)) (k : Nat) (b1 : Nat) (h1 : ra_N b1) : ∀ n : Nat, pX3_readChannels_0 Z r w1 k b1 n ∧ pX3_readChannels_1 Z r w1 k b1 n := by
  intro n
  induction n with
  | zero => exact ⟨(fun _ _ h => by cases h), (fun _ _ h => by cases h)⟩
  | succ n ih =>
    obtain ⟨ih0, ih1⟩ := ih
    exact ⟨tX3_readChannels_0 C hQ hr k b1 h1 n ih1, tX3_readChannels_1 C hQ hr k b1 h1 n ih1⟩
theorem kX3_readChannels (l : Launch) (G : ra_G) (hj : ra_inj G) (k : Nat) (b1 : Nat) (h1 : ra_N b1)  (w : ra_W) (r : Int32) (w1 : ra_W) (h : FX3_readChannels k b1  w = some (r, w1)) : ra_MI l G yX3_readChannels cX3_readChannels 3 (some .boolean) 4 95 [.ref (G.1 1), .ref (G.1 b1)] w r w1 :=
  ra_entryI (own := RX3) (by decide) rfl (Nat.le_of_ble_eq_true rfl) hj (fun Z hl hG C hQ hr => by subst hl; subst hG; exact (tX3_readChannels C hQ hr k b1 h1 k).1 _ _ h)
theorem ysX3_readChannels : ra_YV yX3_readChannels cX3_readChannels 3 (some .boolean) 1 RX3 := ⟨⟨wd_2, wd_291, by decide, by decide, by decide⟩, wd_290, wp_4⟩
/-- TrunkRadio$Reader.isEnded -/
def fX3_isEnded (k : Nat) : Nat → Nat → ra_W → Option (Int32 × ra_W)
  | 0, _, _ => none
  | n + 1, L, w => match L with
    | _ => ra_bind (FX3_readToken k w) (fun _ w2 => if (w2 1 4) = 59 then (some (1, w2)) else (some (0, w2)))
theorem fX3_isEnded_0 (k : Nat) (n : Nat)  (w : ra_W) : fX3_isEnded k (n + 1) 0  w = (ra_bind (FX3_readToken k w) (fun _ w2 => if (w2 1 4) = 59 then (some (1, w2)) else (some (0, w2)))) := rfl
def FX3_isEnded (k : Nat)  (w : ra_W) : Option (Int32 × ra_W) := fX3_isEnded k k 0  w
def pX3_isEnded_0 (Z : ra_Z) (r : Int32) (w1 : ra_W) (k : Nat) (n : Nat) : Prop := ∀  (w : ra_W), fX3_isEnded k n 0  w = some (r, w1) → ra_J Z 1 0 [(0, .ref ((zG Z).1 1))] [] w
set_option maxHeartbeats 4000000 in
theorem tX3_isEnded_0 {Z : ra_Z} {r : Int32} {w1 : ra_W} (C : ra_C Z cX3_isEnded 1 RX3 3 73) (hQ : ra_QI Z r w1) (hr : (zmt Z).sig.returnType = (some .boolean)) (k : Nat) (n : Nat) : pX3_isEnded_0 Z r w1 k (n + 1) := by
  intro w hf
  rw [fX3_isEnded_0] at hf
  refine rg_aload_n (pc := 0) C 0 rfl rfl dX3_isEnded_0 ?_
  obtain ⟨r1, w2, e3, hf⟩ := ra_bd hf
  refine rg_callVV (pc := 1) (As := []) (st := []) C (kX3_readToken (zl Z) (zG Z) C.hj k _ _ _ e3) kd_1 (by decide) rfl ysX3_readToken rfl wd_266 ⟨Nat.le_of_ble_eq_true rfl, Nat.le_of_ble_eq_true rfl⟩ rfl (Nat.le_of_ble_eq_true rfl) dX3_isEnded_1 ?_
  refine rg_aload_n (pc := 4) C 0 rfl rfl dX3_isEnded_4 ?_
  refine rg_get (pc := 5) C 1 3 4 kd_1 (by decide) rfl inlX3 (by decide) wd_30 rfl dX3_isEnded_5 ?_
  refine rg_bipush (pc := 8) (v := 59) C dX3_isEnded_8 (by decide) ?_
  refine rg_icmp_ne (pc := 10) (tgt := 17) C dX3_isEnded_10 (by decide) (fun c4 => ?_) (fun c4 => ?_)
  · replace hf := ra_f hf c4
    refine rg_iconst (pc := 17) (v := 0) C dX3_isEnded_17 (by decide) ?_
    exact rg_zret (pc := 18) C hQ hr (by decide) hf dX3_isEnded_18
  · replace hf := ra_t hf c4
    refine rg_iconst (pc := 13) (v := 1) C dX3_isEnded_13 (by decide) ?_
    refine rg_goto (pc := 14) (tgt := 18) C dX3_isEnded_14 (by decide) ?_
    exact rg_zret (pc := 18) C hQ hr (by decide) hf dX3_isEnded_18
theorem tX3_isEnded {Z : ra_Z} {r : Int32} {w1 : ra_W} (C : ra_C Z cX3_isEnded 1 RX3 3 73) (hQ : ra_QI Z r w1) (hr : (zmt Z).sig.returnType = (some .boolean)) (k : Nat) : ∀ n : Nat, pX3_isEnded_0 Z r w1 k n := by
  intro n
  induction n with
  | zero => exact (fun _ h => by cases h)
  | succ n ih => exact tX3_isEnded_0 C hQ hr k n
theorem kX3_isEnded (l : Launch) (G : ra_G) (hj : ra_inj G) (k : Nat)  (w : ra_W) (r : Int32) (w1 : ra_W) (h : FX3_isEnded k  w = some (r, w1)) : ra_MI l G yX3_isEnded cX3_isEnded 1 (some .boolean) 3 73 [.ref (G.1 1)] w r w1 :=
  ra_entryI (own := RX3) (by decide) rfl (Nat.le_of_ble_eq_true rfl) hj (fun Z hl hG C hQ hr => by subst hl; subst hG; exact (tX3_isEnded C hQ hr k k) _ h)
theorem ysX3_isEnded : ra_YV yX3_isEnded cX3_isEnded 1 (some .boolean) 0 RX3 := ⟨⟨wd_2, wd_299, by decide, by decide, by decide⟩, wd_298, wp_6⟩
/-- TrunkRadio$Reader.readAir -/
def fX3_readAir (k : Nat) (b1 : Nat) : Nat → Nat → ra_W → Option (Int32 × ra_W)
  | 0, _, _ => none
  | n + 1, L, w => match L with
    | _ => ra_bind (FX3_isNumberFrom k 1 9 (ra_st w 1 7 1)) (fun r1 w2 => if (r1 = 0 ∨ r1 = 1) then some (r1, (ra_st w2 b1 1 (w2 1 5))) else none)
theorem fX3_readAir_0 (k : Nat) (b1 : Nat) (n : Nat)  (w : ra_W) : fX3_readAir k b1 (n + 1) 0  w = (ra_bind (FX3_isNumberFrom k 1 9 (ra_st w 1 7 1)) (fun r1 w2 => if (r1 = 0 ∨ r1 = 1) then some (r1, (ra_st w2 b1 1 (w2 1 5))) else none)) := rfl
def FX3_readAir (k : Nat) (b1 : Nat)  (w : ra_W) : Option (Int32 × ra_W) := fX3_readAir k b1 k 0  w
def pX3_readAir_0 (Z : ra_Z) (r : Int32) (w1 : ra_W) (k : Nat) (b1 : Nat) (n : Nat) : Prop := ∀  (w : ra_W), fX3_readAir k b1 n 0  w = some (r, w1) → ra_J Z 3 0 [(0, .ref ((zG Z).1 1)), (1, .ref ((zG Z).1 b1))] [] w
set_option maxHeartbeats 4000000 in
theorem tX3_readAir_0 {Z : ra_Z} {r : Int32} {w1 : ra_W} (C : ra_C Z cX3_readAir 3 RX3 4 95) (hQ : ra_QI Z r w1) (hr : (zmt Z).sig.returnType = (some .boolean)) (k : Nat) (b1 : Nat) (h1 : ra_N b1) (n : Nat) : pX3_readAir_0 Z r w1 k b1 (n + 1) := by
  intro w hf
  rw [fX3_readAir_0] at hf
  refine rg_aload_n (pc := 0) C 0 rfl rfl dX3_readAir_0 ?_
  refine rg_iconst (pc := 1) (v := 1) C dX3_readAir_1 (by decide) ?_
  refine rg_put (pc := 2) C 1 3 7 kd_1 (by decide) rfl inlX3 tyX3 tyX3_ok nmX3 (by decide) wd_33 rfl rfl rfl (Nat.le_of_ble_eq_true rfl) rfl dX3_readAir_2 ?_
  refine rg_aload_n (pc := 5) C 0 rfl rfl dX3_readAir_5 ?_
  refine rg_iconst (pc := 6) (v := 1) C dX3_readAir_6 (by decide) ?_
  refine rg_bipush (pc := 7) (v := 9) C dX3_readAir_7 (by decide) ?_
  obtain ⟨r1, w2, e3, hf⟩ := ra_bd hf
  refine rg_callVI (pc := 9) (As := [.int 1, .int 9]) (st := []) C (kX3_isNumberFrom (zl Z) (zG Z) C.hj k _ _ _ _ _ e3) kd_1 (by decide) rfl ysX3_isNumberFrom rfl wd_292 ⟨Nat.le_of_ble_eq_true rfl, Nat.le_of_ble_eq_true rfl⟩ rfl (Nat.le_of_ble_eq_true rfl) dX3_readAir_9 ?_
  refine rg_istore_n (pc := 12) (lv' := [(0, .ref ((zG Z).1 1)), (1, .ref ((zG Z).1 b1)), (2, .int r1)]) C [1, 2, 0] rfl rfl (by decide) dX3_readAir_12 ?_
  refine rg_aload_n (pc := 13) C 1 rfl rfl dX3_readAir_13 ?_
  refine rg_aload_n (pc := 14) C 0 rfl rfl dX3_readAir_14 ?_
  refine rg_get (pc := 15) C 1 3 5 kd_1 (by decide) rfl inlX3 (by decide) wd_31 rfl dX3_readAir_15 ?_
  refine rg_put (pc := 18) C b1 2 1 h1.1 (by decide) rfl inlX2 tyX2 tyX2_ok nmX2 (by decide) wd_72 rfl rfl rfl (Nat.le_of_ble_eq_true rfl) rfl dX3_readAir_18 ?_
  refine rg_iload_n (pc := 21) C 2 rfl rfl dX3_readAir_21 ?_
  obtain ⟨g4, hf⟩ := ra_gd hf
  exact rg_zret (pc := 22) C hQ hr g4 hf dX3_readAir_22
theorem tX3_readAir {Z : ra_Z} {r : Int32} {w1 : ra_W} (C : ra_C Z cX3_readAir 3 RX3 4 95) (hQ : ra_QI Z r w1) (hr : (zmt Z).sig.returnType = (some .boolean)) (k : Nat) (b1 : Nat) (h1 : ra_N b1) : ∀ n : Nat, pX3_readAir_0 Z r w1 k b1 n := by
  intro n
  induction n with
  | zero => exact (fun _ h => by cases h)
  | succ n ih => exact tX3_readAir_0 C hQ hr k b1 h1 n
theorem kX3_readAir (l : Launch) (G : ra_G) (hj : ra_inj G) (k : Nat) (b1 : Nat) (h1 : ra_N b1)  (w : ra_W) (r : Int32) (w1 : ra_W) (h : FX3_readAir k b1  w = some (r, w1)) : ra_MI l G yX3_readAir cX3_readAir 3 (some .boolean) 4 95 [.ref (G.1 1), .ref (G.1 b1)] w r w1 :=
  ra_entryI (own := RX3) (by decide) rfl (Nat.le_of_ble_eq_true rfl) hj (fun Z hl hG C hQ hr => by subst hl; subst hG; exact (tX3_readAir C hQ hr k b1 h1 k) _ h)
theorem ysX3_readAir : ra_YV yX3_readAir cX3_readAir 3 (some .boolean) 1 RX3 := ⟨⟨wd_2, wd_303, by decide, by decide, by decide⟩, wd_302, wp_7⟩
/-- TrunkRadio$Reader.readPatience -/
def fX3_readPatience (k : Nat) (b1 : Nat) : Nat → Nat → ra_W → Option (Int32 × ra_W)
  | 0, _, _ => none
  | n + 1, L, w => match L with
    | _ => ra_bind (FX3_isNumberFrom k 1 20 (ra_st w 1 8 1)) (fun r1 w2 => if (r1 = 0 ∨ r1 = 1) then some (r1, (ra_st w2 b1 2 (w2 1 5))) else none)
theorem fX3_readPatience_0 (k : Nat) (b1 : Nat) (n : Nat)  (w : ra_W) : fX3_readPatience k b1 (n + 1) 0  w = (ra_bind (FX3_isNumberFrom k 1 20 (ra_st w 1 8 1)) (fun r1 w2 => if (r1 = 0 ∨ r1 = 1) then some (r1, (ra_st w2 b1 2 (w2 1 5))) else none)) := rfl
def FX3_readPatience (k : Nat) (b1 : Nat)  (w : ra_W) : Option (Int32 × ra_W) := fX3_readPatience k b1 k 0  w
def pX3_readPatience_0 (Z : ra_Z) (r : Int32) (w1 : ra_W) (k : Nat) (b1 : Nat) (n : Nat) : Prop := ∀  (w : ra_W), fX3_readPatience k b1 n 0  w = some (r, w1) → ra_J Z 3 0 [(0, .ref ((zG Z).1 1)), (1, .ref ((zG Z).1 b1))] [] w
set_option maxHeartbeats 4000000 in
theorem tX3_readPatience_0 {Z : ra_Z} {r : Int32} {w1 : ra_W} (C : ra_C Z cX3_readPatience 3 RX3 4 95) (hQ : ra_QI Z r w1) (hr : (zmt Z).sig.returnType = (some .boolean)) (k : Nat) (b1 : Nat) (h1 : ra_N b1) (n : Nat) : pX3_readPatience_0 Z r w1 k b1 (n + 1) := by
  intro w hf
  rw [fX3_readPatience_0] at hf
  refine rg_aload_n (pc := 0) C 0 rfl rfl dX3_readPatience_0 ?_
  refine rg_iconst (pc := 1) (v := 1) C dX3_readPatience_1 (by decide) ?_
  refine rg_put (pc := 2) C 1 3 8 kd_1 (by decide) rfl inlX3 tyX3 tyX3_ok nmX3 (by decide) wd_34 rfl rfl rfl (Nat.le_of_ble_eq_true rfl) rfl dX3_readPatience_2 ?_
  refine rg_aload_n (pc := 5) C 0 rfl rfl dX3_readPatience_5 ?_
  refine rg_iconst (pc := 6) (v := 1) C dX3_readPatience_6 (by decide) ?_
  refine rg_bipush (pc := 7) (v := 20) C dX3_readPatience_7 (by decide) ?_
  obtain ⟨r1, w2, e3, hf⟩ := ra_bd hf
  refine rg_callVI (pc := 9) (As := [.int 1, .int 20]) (st := []) C (kX3_isNumberFrom (zl Z) (zG Z) C.hj k _ _ _ _ _ e3) kd_1 (by decide) rfl ysX3_isNumberFrom rfl wd_292 ⟨Nat.le_of_ble_eq_true rfl, Nat.le_of_ble_eq_true rfl⟩ rfl (Nat.le_of_ble_eq_true rfl) dX3_readPatience_9 ?_
  refine rg_istore_n (pc := 12) (lv' := [(0, .ref ((zG Z).1 1)), (1, .ref ((zG Z).1 b1)), (2, .int r1)]) C [1, 2, 0] rfl rfl (by decide) dX3_readPatience_12 ?_
  refine rg_aload_n (pc := 13) C 1 rfl rfl dX3_readPatience_13 ?_
  refine rg_aload_n (pc := 14) C 0 rfl rfl dX3_readPatience_14 ?_
  refine rg_get (pc := 15) C 1 3 5 kd_1 (by decide) rfl inlX3 (by decide) wd_31 rfl dX3_readPatience_15 ?_
  refine rg_put (pc := 18) C b1 2 2 h1.1 (by decide) rfl inlX2 tyX2 tyX2_ok nmX2 (by decide) wd_75 rfl rfl rfl (Nat.le_of_ble_eq_true rfl) rfl dX3_readPatience_18 ?_
  refine rg_iload_n (pc := 21) C 2 rfl rfl dX3_readPatience_21 ?_
  obtain ⟨g4, hf⟩ := ra_gd hf
  exact rg_zret (pc := 22) C hQ hr g4 hf dX3_readPatience_22
theorem tX3_readPatience {Z : ra_Z} {r : Int32} {w1 : ra_W} (C : ra_C Z cX3_readPatience 3 RX3 4 95) (hQ : ra_QI Z r w1) (hr : (zmt Z).sig.returnType = (some .boolean)) (k : Nat) (b1 : Nat) (h1 : ra_N b1) : ∀ n : Nat, pX3_readPatience_0 Z r w1 k b1 n := by
  intro n
  induction n with
  | zero => exact (fun _ h => by cases h)
  | succ n ih => exact tX3_readPatience_0 C hQ hr k b1 h1 n
theorem kX3_readPatience (l : Launch) (G : ra_G) (hj : ra_inj G) (k : Nat) (b1 : Nat) (h1 : ra_N b1)  (w : ra_W) (r : Int32) (w1 : ra_W) (h : FX3_readPatience k b1  w = some (r, w1)) : ra_MI l G yX3_readPatience cX3_readPatience 3 (some .boolean) 4 95 [.ref (G.1 1), .ref (G.1 b1)] w r w1 :=
  ra_entryI (own := RX3) (by decide) rfl (Nat.le_of_ble_eq_true rfl) hj (fun Z hl hG C hQ hr => by subst hl; subst hG; exact (tX3_readPatience C hQ hr k b1 h1 k) _ h)
theorem ysX3_readPatience : ra_YV yX3_readPatience cX3_readPatience 3 (some .boolean) 1 RX3 := ⟨⟨wd_2, wd_307, by decide, by decide, by decide⟩, wd_306, wp_8⟩
/-- TrunkRadio$Reader.readRadio -/
def fX3_readRadio (k : Nat) (b1 : Nat) : Nat → Nat → ra_W → Option (Int32 × ra_W)
  | 0, _, _ => none
  | n + 1, L, w => match L with
    | _ => if (w b1 0) < 0 then (some (0, w)) else (if 7 ≤ (w b1 0) then (some (0, w)) else (ra_bind (FX3_isNumberFrom k 0 1 w) (fun r3 w4 => if r3 = 0 then (some (0, w4)) else (if ra_in (w b1 0) 7 then ra_bind (FX3_isNumberFrom k 0 5 (ra_st w4 (b1 + 2) (ra_ix (w b1 0)) (w4 1 5))) (fun r8 w9 => if r8 = 0 then (some (0, w9)) else (ra_bind (FX3_isNumberFrom k 0 3 (ra_st w9 (b1 + 3) (ra_ix (w b1 0)) (w9 1 5))) (fun r12 w13 => if r12 = 0 then (some (0, w13)) else (some (1, (ra_st (ra_st w13 (b1 + 4) (ra_ix (w b1 0)) (w13 1 5)) b1 0 (((ra_st w13 (b1 + 4) (ra_ix (w b1 0)) (w13 1 5)) b1 0) + 1))))))) else none))))
theorem fX3_readRadio_0 (k : Nat) (b1 : Nat) (n : Nat)  (w : ra_W) : fX3_readRadio k b1 (n + 1) 0  w = (if (w b1 0) < 0 then (some (0, w)) else (if 7 ≤ (w b1 0) then (some (0, w)) else (ra_bind (FX3_isNumberFrom k 0 1 w) (fun r3 w4 => if r3 = 0 then (some (0, w4)) else (if ra_in (w b1 0) 7 then ra_bind (FX3_isNumberFrom k 0 5 (ra_st w4 (b1 + 2) (ra_ix (w b1 0)) (w4 1 5))) (fun r8 w9 => if r8 = 0 then (some (0, w9)) else (ra_bind (FX3_isNumberFrom k 0 3 (ra_st w9 (b1 + 3) (ra_ix (w b1 0)) (w9 1 5))) (fun r12 w13 => if r12 = 0 then (some (0, w13)) else (some (1, (ra_st (ra_st w13 (b1 + 4) (ra_ix (w b1 0)) (w13 1 5)) b1 0 (((ra_st w13 (b1 + 4) (ra_ix (w b1 0)) (w13 1 5)) b1 0) + 1))))))) else none))))) := rfl
def FX3_readRadio (k : Nat) (b1 : Nat)  (w : ra_W) : Option (Int32 × ra_W) := fX3_readRadio k b1 k 0  w
def pX3_readRadio_0 (Z : ra_Z) (r : Int32) (w1 : ra_W) (k : Nat) (b1 : Nat) (n : Nat) : Prop := ∀  (w : ra_W), fX3_readRadio k b1 n 0  w = some (r, w1) → ra_J Z 3 0 [(0, .ref ((zG Z).1 1)), (1, .ref ((zG Z).1 b1))] [] w
set_option maxHeartbeats 4000000 in
theorem tX3_readRadio_0 {Z : ra_Z} {r : Int32} {w1 : ra_W} (C : ra_C Z cX3_readRadio 3 RX3 4 95) (hQ : ra_QI Z r w1) (hr : (zmt Z).sig.returnType = (some .boolean)) (k : Nat) (b1 : Nat) (h1 : ra_N b1) (n : Nat) : pX3_readRadio_0 Z r w1 k b1 (n + 1) := by
  intro w hf
  rw [fX3_readRadio_0] at hf
  refine rg_aload_n (pc := 0) C 1 rfl rfl dX3_readRadio_0 ?_
  refine rg_get (pc := 1) C b1 2 0 h1.1 (by decide) rfl inlX2 (by decide) wd_69 rfl dX3_readRadio_1 ?_
  refine rg_istore_n (pc := 4) (lv' := [(0, .ref ((zG Z).1 1)), (1, .ref ((zG Z).1 b1)), (2, .int (w b1 0))]) C [1, 2, 0] rfl rfl (by decide) dX3_readRadio_4 ?_
  refine rg_iload_n (pc := 5) C 2 rfl rfl dX3_readRadio_5 ?_
  refine rg_if_lt (pc := 6) (tgt := 24) C dX3_readRadio_6 (by decide) (fun c1 => ?_) (fun c1 => ?_)
  · replace hf := ra_t hf c1
    refine rg_iconst (pc := 24) (v := 0) C dX3_readRadio_24 (by decide) ?_
    exact rg_zret (pc := 25) C hQ hr (by decide) hf dX3_readRadio_25
  · replace hf := ra_f hf c1
    refine rg_iload_n (pc := 9) C 2 rfl rfl dX3_readRadio_9 ?_
    refine rg_bipush (pc := 10) (v := 7) C dX3_readRadio_10 (by decide) ?_
    refine rg_icmp_ge (pc := 12) (tgt := 24) C dX3_readRadio_12 (by decide) (fun c2 => ?_) (fun c2 => ?_)
    · replace hf := ra_t hf c2
      refine rg_iconst (pc := 24) (v := 0) C dX3_readRadio_24 (by decide) ?_
      exact rg_zret (pc := 25) C hQ hr (by decide) hf dX3_readRadio_25
    · replace hf := ra_f hf c2
      refine rg_aload_n (pc := 15) C 0 rfl rfl dX3_readRadio_15 ?_
      refine rg_iconst (pc := 16) (v := 0) C dX3_readRadio_16 (by decide) ?_
      refine rg_iconst (pc := 17) (v := 1) C dX3_readRadio_17 (by decide) ?_
      obtain ⟨r3, w4, e5, hf⟩ := ra_bd hf
      refine rg_callVI (pc := 18) (As := [.int 0, .int 1]) (st := []) C (kX3_isNumberFrom (zl Z) (zG Z) C.hj k _ _ _ _ _ e5) kd_1 (by decide) rfl ysX3_isNumberFrom rfl wd_292 ⟨Nat.le_of_ble_eq_true rfl, Nat.le_of_ble_eq_true rfl⟩ rfl (Nat.le_of_ble_eq_true rfl) dX3_readRadio_18 ?_
      refine rg_if_ne (pc := 21) (tgt := 26) C dX3_readRadio_21 (by decide) (fun c6 => ?_) (fun c6 => ?_)
      · replace hf := ra_f hf c6
        refine rg_aload_n (pc := 26) C 1 rfl rfl dX3_readRadio_26 ?_
        refine rg_get (pc := 27) C b1 2 4 h1.1 (by decide) rfl inlX2 (by decide) wd_85 rfl dX3_readRadio_27 ?_
        refine rg_iload_n (pc := 30) C 2 rfl rfl dX3_readRadio_30 ?_
        refine rg_aload_n (pc := 31) C 0 rfl rfl dX3_readRadio_31 ?_
        refine rg_get (pc := 32) C 1 3 5 kd_1 (by decide) rfl inlX3 (by decide) wd_31 rfl dX3_readRadio_32 ?_
        obtain ⟨g7, hf⟩ := ra_gd hf
        refine rg_iast (pc := 35) (j := (ra_ix (w b1 0))) C (b1 + 2) h1.2.2.1 rfl g7 dX3_readRadio_35 ?_
        refine rg_aload_n (pc := 36) C 0 rfl rfl dX3_readRadio_36 ?_
        refine rg_iconst (pc := 37) (v := 0) C dX3_readRadio_37 (by decide) ?_
        refine rg_iconst (pc := 38) (v := 5) C dX3_readRadio_38 (by decide) ?_
        obtain ⟨r8, w9, e10, hf⟩ := ra_bd hf
        refine rg_callVI (pc := 39) (As := [.int 0, .int 5]) (st := []) C (kX3_isNumberFrom (zl Z) (zG Z) C.hj k _ _ _ _ _ e10) kd_1 (by decide) rfl ysX3_isNumberFrom rfl wd_292 ⟨Nat.le_of_ble_eq_true rfl, Nat.le_of_ble_eq_true rfl⟩ rfl (Nat.le_of_ble_eq_true rfl) dX3_readRadio_39 ?_
        refine rg_if_ne (pc := 42) (tgt := 47) C dX3_readRadio_42 (by decide) (fun c11 => ?_) (fun c11 => ?_)
        · replace hf := ra_f hf c11
          refine rg_aload_n (pc := 47) C 1 rfl rfl dX3_readRadio_47 ?_
          refine rg_get (pc := 48) C b1 2 5 h1.1 (by decide) rfl inlX2 (by decide) wd_90 rfl dX3_readRadio_48 ?_
          refine rg_iload_n (pc := 51) C 2 rfl rfl dX3_readRadio_51 ?_
          refine rg_aload_n (pc := 52) C 0 rfl rfl dX3_readRadio_52 ?_
          refine rg_get (pc := 53) C 1 3 5 kd_1 (by decide) rfl inlX3 (by decide) wd_31 rfl dX3_readRadio_53 ?_
          refine rg_iast (pc := 56) (j := (ra_ix (w b1 0))) C (b1 + 3) h1.2.2.2.1 rfl g7 dX3_readRadio_56 ?_
          refine rg_aload_n (pc := 57) C 0 rfl rfl dX3_readRadio_57 ?_
          refine rg_iconst (pc := 58) (v := 0) C dX3_readRadio_58 (by decide) ?_
          refine rg_iconst (pc := 59) (v := 3) C dX3_readRadio_59 (by decide) ?_
          obtain ⟨r12, w13, e14, hf⟩ := ra_bd hf
          refine rg_callVI (pc := 60) (As := [.int 0, .int 3]) (st := []) C (kX3_isNumberFrom (zl Z) (zG Z) C.hj k _ _ _ _ _ e14) kd_1 (by decide) rfl ysX3_isNumberFrom rfl wd_292 ⟨Nat.le_of_ble_eq_true rfl, Nat.le_of_ble_eq_true rfl⟩ rfl (Nat.le_of_ble_eq_true rfl) dX3_readRadio_60 ?_
          refine rg_if_ne (pc := 63) (tgt := 68) C dX3_readRadio_63 (by decide) (fun c15 => ?_) (fun c15 => ?_)
          · replace hf := ra_f hf c15
            refine rg_aload_n (pc := 68) C 1 rfl rfl dX3_readRadio_68 ?_
            refine rg_get (pc := 69) C b1 2 6 h1.1 (by decide) rfl inlX2 (by decide) wd_94 rfl dX3_readRadio_69 ?_
            refine rg_iload_n (pc := 72) C 2 rfl rfl dX3_readRadio_72 ?_
            refine rg_aload_n (pc := 73) C 0 rfl rfl dX3_readRadio_73 ?_
            refine rg_get (pc := 74) C 1 3 5 kd_1 (by decide) rfl inlX3 (by decide) wd_31 rfl dX3_readRadio_74 ?_
            refine rg_iast (pc := 77) (j := (ra_ix (w b1 0))) C (b1 + 4) h1.2.2.2.2 rfl g7 dX3_readRadio_77 ?_
            refine rg_aload_n (pc := 78) C 1 rfl rfl dX3_readRadio_78 ?_
            refine rg_dup (pc := 79) C rfl dX3_readRadio_79 ?_
            refine rg_get (pc := 80) C b1 2 0 h1.1 (by decide) rfl inlX2 (by decide) wd_69 rfl dX3_readRadio_80 ?_
            refine rg_iconst (pc := 83) (v := 1) C dX3_readRadio_83 (by decide) ?_
            refine rg_iadd (pc := 84) C dX3_readRadio_84 ?_
            refine rg_put (pc := 85) C b1 2 0 h1.1 (by decide) rfl inlX2 tyX2 tyX2_ok nmX2 (by decide) wd_69 rfl rfl rfl (Nat.le_of_ble_eq_true rfl) rfl dX3_readRadio_85 ?_
            refine rg_iconst (pc := 88) (v := 1) C dX3_readRadio_88 (by decide) ?_
            exact rg_zret (pc := 89) C hQ hr (by decide) hf dX3_readRadio_89
          · replace hf := ra_t hf c15
            refine rg_iconst (pc := 66) (v := 0) C dX3_readRadio_66 (by decide) ?_
            exact rg_zret (pc := 67) C hQ hr (by decide) hf dX3_readRadio_67
        · replace hf := ra_t hf c11
          refine rg_iconst (pc := 45) (v := 0) C dX3_readRadio_45 (by decide) ?_
          exact rg_zret (pc := 46) C hQ hr (by decide) hf dX3_readRadio_46
      · replace hf := ra_t hf c6
        refine rg_iconst (pc := 24) (v := 0) C dX3_readRadio_24 (by decide) ?_
        exact rg_zret (pc := 25) C hQ hr (by decide) hf dX3_readRadio_25
theorem tX3_readRadio {Z : ra_Z} {r : Int32} {w1 : ra_W} (C : ra_C Z cX3_readRadio 3 RX3 4 95) (hQ : ra_QI Z r w1) (hr : (zmt Z).sig.returnType = (some .boolean)) (k : Nat) (b1 : Nat) (h1 : ra_N b1) : ∀ n : Nat, pX3_readRadio_0 Z r w1 k b1 n := by
  intro n
  induction n with
  | zero => exact (fun _ h => by cases h)
  | succ n ih => exact tX3_readRadio_0 C hQ hr k b1 h1 n
theorem kX3_readRadio (l : Launch) (G : ra_G) (hj : ra_inj G) (k : Nat) (b1 : Nat) (h1 : ra_N b1)  (w : ra_W) (r : Int32) (w1 : ra_W) (h : FX3_readRadio k b1  w = some (r, w1)) : ra_MI l G yX3_readRadio cX3_readRadio 3 (some .boolean) 4 95 [.ref (G.1 1), .ref (G.1 b1)] w r w1 :=
  ra_entryI (own := RX3) (by decide) rfl (Nat.le_of_ble_eq_true rfl) hj (fun Z hl hG C hQ hr => by subst hl; subst hG; exact (tX3_readRadio C hQ hr k b1 h1 k) _ h)
theorem ysX3_readRadio : ra_YV yX3_readRadio cX3_readRadio 3 (some .boolean) 1 RX3 := ⟨⟨wd_2, wd_311, by decide, by decide, by decide⟩, wd_310, wp_9⟩
/-- TrunkRadio$Reader.readItem -/
def fX3_readItem (k : Nat) (b1 : Nat) : Nat → Nat → ra_W → Option (Int32 × ra_W)
  | 0, _, _ => none
  | n + 1, L, w => match L with
    | _ => if (w 1 4) = 97 then (if (w 1 7) = 0 then (ra_bind (FX3_readAir k b1 w) (fun r3 w4 => if r3 = 0 then (some (0, w4)) else (ra_bind (FX3_isEnded k w4) (fun r7 w8 => if r7 = 0 then (some (0, w8)) else (some (1, w8)))))) else (some (0, w))) else (if (w 1 4) = 99 then (if (w 1 6) = 0 then (ra_bind (FX3_readChannels k b1 w) (fun r13 w14 => if r13 = 0 then (some (0, w14)) else (ra_bind (FX3_isEnded k w14) (fun r17 w18 => if r17 = 0 then (some (0, w18)) else (some (1, w18)))))) else (some (0, w))) else (if (w 1 4) = 114 then (if 7 ≤ (w b1 0) then (some (0, w)) else (ra_bind (FX3_readRadio k b1 w) (fun r23 w24 => if r23 = 0 then (some (0, w24)) else (ra_bind (FX3_isEnded k w24) (fun r27 w28 => if r27 = 0 then (some (0, w28)) else (some (1, w28))))))) else (if (w 1 4) = 119 then (if (w 1 8) = 0 then (ra_bind (FX3_readPatience k b1 w) (fun r33 w34 => if r33 = 0 then (some (0, w34)) else (ra_bind (FX3_isEnded k w34) (fun r37 w38 => if r37 = 0 then (some (0, w38)) else (some (1, w38)))))) else (some (0, w))) else (some (0, w)))))
theorem fX3_readItem_0 (k : Nat) (b1 : Nat) (n : Nat)  (w : ra_W) : fX3_readItem k b1 (n + 1) 0  w = (if (w 1 4) = 97 then (if (w 1 7) = 0 then (ra_bind (FX3_readAir k b1 w) (fun r3 w4 => if r3 = 0 then (some (0, w4)) else (ra_bind (FX3_isEnded k w4) (fun r7 w8 => if r7 = 0 then (some (0, w8)) else (some (1, w8)))))) else (some (0, w))) else (if (w 1 4) = 99 then (if (w 1 6) = 0 then (ra_bind (FX3_readChannels k b1 w) (fun r13 w14 => if r13 = 0 then (some (0, w14)) else (ra_bind (FX3_isEnded k w14) (fun r17 w18 => if r17 = 0 then (some (0, w18)) else (some (1, w18)))))) else (some (0, w))) else (if (w 1 4) = 114 then (if 7 ≤ (w b1 0) then (some (0, w)) else (ra_bind (FX3_readRadio k b1 w) (fun r23 w24 => if r23 = 0 then (some (0, w24)) else (ra_bind (FX3_isEnded k w24) (fun r27 w28 => if r27 = 0 then (some (0, w28)) else (some (1, w28))))))) else (if (w 1 4) = 119 then (if (w 1 8) = 0 then (ra_bind (FX3_readPatience k b1 w) (fun r33 w34 => if r33 = 0 then (some (0, w34)) else (ra_bind (FX3_isEnded k w34) (fun r37 w38 => if r37 = 0 then (some (0, w38)) else (some (1, w38)))))) else (some (0, w))) else (some (0, w)))))) := rfl
def FX3_readItem (k : Nat) (b1 : Nat)  (w : ra_W) : Option (Int32 × ra_W) := fX3_readItem k b1 k 0  w
def pX3_readItem_0 (Z : ra_Z) (r : Int32) (w1 : ra_W) (k : Nat) (b1 : Nat) (n : Nat) : Prop := ∀  (w : ra_W), fX3_readItem k b1 n 0  w = some (r, w1) → ra_J Z 2 0 [(0, .ref ((zG Z).1 1)), (1, .ref ((zG Z).1 b1))] [] w
set_option maxHeartbeats 4000000 in
theorem tX3_readItem_0 {Z : ra_Z} {r : Int32} {w1 : ra_W} (C : ra_C Z cX3_readItem 2 RX3 5 117) (hQ : ra_QI Z r w1) (hr : (zmt Z).sig.returnType = (some .boolean)) (k : Nat) (b1 : Nat) (h1 : ra_N b1) (n : Nat) : pX3_readItem_0 Z r w1 k b1 (n + 1) := by
  intro w hf
  rw [fX3_readItem_0] at hf
  refine rg_aload_n (pc := 0) C 0 rfl rfl dX3_readItem_0 ?_
  refine rg_get (pc := 1) C 1 3 4 kd_1 (by decide) rfl inlX3 (by decide) wd_30 rfl dX3_readItem_1 ?_
  by_cases c1 : (w 1 4) = 97
  · replace hf := ra_t hf c1
    refine rg_lookK (pc := 4) (off := 72) (tgt := 76) C 97 c1 dX3_readItem_4 (by decide) (by decide) (by decide) ?_
    refine rg_aload_n (pc := 76) C 0 rfl rfl dX3_readItem_76 ?_
    refine rg_get (pc := 77) C 1 3 7 kd_1 (by decide) rfl inlX3 (by decide) wd_33 rfl dX3_readItem_77 ?_
    refine rg_if_ne (pc := 80) (tgt := 102) C dX3_readItem_80 (by decide) (fun c2 => ?_) (fun c2 => ?_)
    · replace hf := ra_f hf c2
      refine rg_iconst (pc := 102) (v := 0) C dX3_readItem_102 (by decide) ?_
      exact rg_zret (pc := 103) C hQ hr (by decide) hf dX3_readItem_103
    · replace hf := ra_t hf c2
      refine rg_aload_n (pc := 83) C 0 rfl rfl dX3_readItem_83 ?_
      refine rg_aload_n (pc := 84) C 1 rfl rfl dX3_readItem_84 ?_
      obtain ⟨r3, w4, e5, hf⟩ := ra_bd hf
      refine rg_callVI (pc := 85) (As := [.ref ((zG Z).1 b1)]) (st := []) C (kX3_readAir (zl Z) (zG Z) C.hj k b1 h1 _ _ _ e5) kd_1 (by decide) rfl ysX3_readAir rfl wd_300 ⟨Nat.le_of_ble_eq_true rfl, Nat.le_of_ble_eq_true rfl⟩ rfl (Nat.le_of_ble_eq_true rfl) dX3_readItem_85 ?_
      refine rg_if_eq (pc := 88) (tgt := 102) C dX3_readItem_88 (by decide) (fun c6 => ?_) (fun c6 => ?_)
      · replace hf := ra_t hf c6
        refine rg_iconst (pc := 102) (v := 0) C dX3_readItem_102 (by decide) ?_
        exact rg_zret (pc := 103) C hQ hr (by decide) hf dX3_readItem_103
      · replace hf := ra_f hf c6
        refine rg_aload_n (pc := 91) C 0 rfl rfl dX3_readItem_91 ?_
        obtain ⟨r7, w8, e9, hf⟩ := ra_bd hf
        refine rg_callVI (pc := 92) (As := []) (st := []) C (kX3_isEnded (zl Z) (zG Z) C.hj k _ _ _ e9) kd_1 (by decide) rfl ysX3_isEnded rfl wd_296 ⟨Nat.le_of_ble_eq_true rfl, Nat.le_of_ble_eq_true rfl⟩ rfl (Nat.le_of_ble_eq_true rfl) dX3_readItem_92 ?_
        refine rg_if_eq (pc := 95) (tgt := 102) C dX3_readItem_95 (by decide) (fun c10 => ?_) (fun c10 => ?_)
        · replace hf := ra_t hf c10
          refine rg_iconst (pc := 102) (v := 0) C dX3_readItem_102 (by decide) ?_
          exact rg_zret (pc := 103) C hQ hr (by decide) hf dX3_readItem_103
        · replace hf := ra_f hf c10
          refine rg_iconst (pc := 98) (v := 1) C dX3_readItem_98 (by decide) ?_
          refine rg_goto (pc := 99) (tgt := 103) C dX3_readItem_99 (by decide) ?_
          exact rg_zret (pc := 103) C hQ hr (by decide) hf dX3_readItem_103
  · replace hf := ra_f hf c1
    by_cases c11 : (w 1 4) = 99
    · replace hf := ra_t hf c11
      refine rg_lookK (pc := 4) (off := 44) (tgt := 48) C 99 c11 dX3_readItem_4 (by decide) (by decide) (by decide) ?_
      refine rg_aload_n (pc := 48) C 0 rfl rfl dX3_readItem_48 ?_
      refine rg_get (pc := 49) C 1 3 6 kd_1 (by decide) rfl inlX3 (by decide) wd_32 rfl dX3_readItem_49 ?_
      refine rg_if_ne (pc := 52) (tgt := 74) C dX3_readItem_52 (by decide) (fun c12 => ?_) (fun c12 => ?_)
      · replace hf := ra_f hf c12
        refine rg_iconst (pc := 74) (v := 0) C dX3_readItem_74 (by decide) ?_
        exact rg_zret (pc := 75) C hQ hr (by decide) hf dX3_readItem_75
      · replace hf := ra_t hf c12
        refine rg_aload_n (pc := 55) C 0 rfl rfl dX3_readItem_55 ?_
        refine rg_aload_n (pc := 56) C 1 rfl rfl dX3_readItem_56 ?_
        obtain ⟨r13, w14, e15, hf⟩ := ra_bd hf
        refine rg_callVI (pc := 57) (As := [.ref ((zG Z).1 b1)]) (st := []) C (kX3_readChannels (zl Z) (zG Z) C.hj k b1 h1 _ _ _ e15) kd_1 (by decide) rfl ysX3_readChannels rfl wd_288 ⟨Nat.le_of_ble_eq_true rfl, Nat.le_of_ble_eq_true rfl⟩ rfl (Nat.le_of_ble_eq_true rfl) dX3_readItem_57 ?_
        refine rg_if_eq (pc := 60) (tgt := 74) C dX3_readItem_60 (by decide) (fun c16 => ?_) (fun c16 => ?_)
        · replace hf := ra_t hf c16
          refine rg_iconst (pc := 74) (v := 0) C dX3_readItem_74 (by decide) ?_
          exact rg_zret (pc := 75) C hQ hr (by decide) hf dX3_readItem_75
        · replace hf := ra_f hf c16
          refine rg_aload_n (pc := 63) C 0 rfl rfl dX3_readItem_63 ?_
          obtain ⟨r17, w18, e19, hf⟩ := ra_bd hf
          refine rg_callVI (pc := 64) (As := []) (st := []) C (kX3_isEnded (zl Z) (zG Z) C.hj k _ _ _ e19) kd_1 (by decide) rfl ysX3_isEnded rfl wd_296 ⟨Nat.le_of_ble_eq_true rfl, Nat.le_of_ble_eq_true rfl⟩ rfl (Nat.le_of_ble_eq_true rfl) dX3_readItem_64 ?_
          refine rg_if_eq (pc := 67) (tgt := 74) C dX3_readItem_67 (by decide) (fun c20 => ?_) (fun c20 => ?_)
          · replace hf := ra_t hf c20
            refine rg_iconst (pc := 74) (v := 0) C dX3_readItem_74 (by decide) ?_
            exact rg_zret (pc := 75) C hQ hr (by decide) hf dX3_readItem_75
          · replace hf := ra_f hf c20
            refine rg_iconst (pc := 70) (v := 1) C dX3_readItem_70 (by decide) ?_
            refine rg_goto (pc := 71) (tgt := 75) C dX3_readItem_71 (by decide) ?_
            exact rg_zret (pc := 75) C hQ hr (by decide) hf dX3_readItem_75
    · replace hf := ra_f hf c11
      by_cases c21 : (w 1 4) = 114
      · replace hf := ra_t hf c21
        refine rg_lookK (pc := 4) (off := 128) (tgt := 132) C 114 c21 dX3_readItem_4 (by decide) (by decide) (by decide) ?_
        refine rg_aload_n (pc := 132) C 1 rfl rfl dX3_readItem_132 ?_
        refine rg_get (pc := 133) C b1 2 0 h1.1 (by decide) rfl inlX2 (by decide) wd_69 rfl dX3_readItem_133 ?_
        refine rg_bipush (pc := 136) (v := 7) C dX3_readItem_136 (by decide) ?_
        refine rg_icmp_ge (pc := 138) (tgt := 160) C dX3_readItem_138 (by decide) (fun c22 => ?_) (fun c22 => ?_)
        · replace hf := ra_t hf c22
          refine rg_iconst (pc := 160) (v := 0) C dX3_readItem_160 (by decide) ?_
          exact rg_zret (pc := 161) C hQ hr (by decide) hf dX3_readItem_161
        · replace hf := ra_f hf c22
          refine rg_aload_n (pc := 141) C 0 rfl rfl dX3_readItem_141 ?_
          refine rg_aload_n (pc := 142) C 1 rfl rfl dX3_readItem_142 ?_
          obtain ⟨r23, w24, e25, hf⟩ := ra_bd hf
          refine rg_callVI (pc := 143) (As := [.ref ((zG Z).1 b1)]) (st := []) C (kX3_readRadio (zl Z) (zG Z) C.hj k b1 h1 _ _ _ e25) kd_1 (by decide) rfl ysX3_readRadio rfl wd_308 ⟨Nat.le_of_ble_eq_true rfl, Nat.le_of_ble_eq_true rfl⟩ rfl (Nat.le_of_ble_eq_true rfl) dX3_readItem_143 ?_
          refine rg_if_eq (pc := 146) (tgt := 160) C dX3_readItem_146 (by decide) (fun c26 => ?_) (fun c26 => ?_)
          · replace hf := ra_t hf c26
            refine rg_iconst (pc := 160) (v := 0) C dX3_readItem_160 (by decide) ?_
            exact rg_zret (pc := 161) C hQ hr (by decide) hf dX3_readItem_161
          · replace hf := ra_f hf c26
            refine rg_aload_n (pc := 149) C 0 rfl rfl dX3_readItem_149 ?_
            obtain ⟨r27, w28, e29, hf⟩ := ra_bd hf
            refine rg_callVI (pc := 150) (As := []) (st := []) C (kX3_isEnded (zl Z) (zG Z) C.hj k _ _ _ e29) kd_1 (by decide) rfl ysX3_isEnded rfl wd_296 ⟨Nat.le_of_ble_eq_true rfl, Nat.le_of_ble_eq_true rfl⟩ rfl (Nat.le_of_ble_eq_true rfl) dX3_readItem_150 ?_
            refine rg_if_eq (pc := 153) (tgt := 160) C dX3_readItem_153 (by decide) (fun c30 => ?_) (fun c30 => ?_)
            · replace hf := ra_t hf c30
              refine rg_iconst (pc := 160) (v := 0) C dX3_readItem_160 (by decide) ?_
              exact rg_zret (pc := 161) C hQ hr (by decide) hf dX3_readItem_161
            · replace hf := ra_f hf c30
              refine rg_iconst (pc := 156) (v := 1) C dX3_readItem_156 (by decide) ?_
              refine rg_goto (pc := 157) (tgt := 161) C dX3_readItem_157 (by decide) ?_
              exact rg_zret (pc := 161) C hQ hr (by decide) hf dX3_readItem_161
      · replace hf := ra_f hf c21
        by_cases c31 : (w 1 4) = 119
        · replace hf := ra_t hf c31
          refine rg_lookK (pc := 4) (off := 100) (tgt := 104) C 119 c31 dX3_readItem_4 (by decide) (by decide) (by decide) ?_
          refine rg_aload_n (pc := 104) C 0 rfl rfl dX3_readItem_104 ?_
          refine rg_get (pc := 105) C 1 3 8 kd_1 (by decide) rfl inlX3 (by decide) wd_34 rfl dX3_readItem_105 ?_
          refine rg_if_ne (pc := 108) (tgt := 130) C dX3_readItem_108 (by decide) (fun c32 => ?_) (fun c32 => ?_)
          · replace hf := ra_f hf c32
            refine rg_iconst (pc := 130) (v := 0) C dX3_readItem_130 (by decide) ?_
            exact rg_zret (pc := 131) C hQ hr (by decide) hf dX3_readItem_131
          · replace hf := ra_t hf c32
            refine rg_aload_n (pc := 111) C 0 rfl rfl dX3_readItem_111 ?_
            refine rg_aload_n (pc := 112) C 1 rfl rfl dX3_readItem_112 ?_
            obtain ⟨r33, w34, e35, hf⟩ := ra_bd hf
            refine rg_callVI (pc := 113) (As := [.ref ((zG Z).1 b1)]) (st := []) C (kX3_readPatience (zl Z) (zG Z) C.hj k b1 h1 _ _ _ e35) kd_1 (by decide) rfl ysX3_readPatience rfl wd_304 ⟨Nat.le_of_ble_eq_true rfl, Nat.le_of_ble_eq_true rfl⟩ rfl (Nat.le_of_ble_eq_true rfl) dX3_readItem_113 ?_
            refine rg_if_eq (pc := 116) (tgt := 130) C dX3_readItem_116 (by decide) (fun c36 => ?_) (fun c36 => ?_)
            · replace hf := ra_t hf c36
              refine rg_iconst (pc := 130) (v := 0) C dX3_readItem_130 (by decide) ?_
              exact rg_zret (pc := 131) C hQ hr (by decide) hf dX3_readItem_131
            · replace hf := ra_f hf c36
              refine rg_aload_n (pc := 119) C 0 rfl rfl dX3_readItem_119 ?_
              obtain ⟨r37, w38, e39, hf⟩ := ra_bd hf
              refine rg_callVI (pc := 120) (As := []) (st := []) C (kX3_isEnded (zl Z) (zG Z) C.hj k _ _ _ e39) kd_1 (by decide) rfl ysX3_isEnded rfl wd_296 ⟨Nat.le_of_ble_eq_true rfl, Nat.le_of_ble_eq_true rfl⟩ rfl (Nat.le_of_ble_eq_true rfl) dX3_readItem_120 ?_
              refine rg_if_eq (pc := 123) (tgt := 130) C dX3_readItem_123 (by decide) (fun c40 => ?_) (fun c40 => ?_)
              · replace hf := ra_t hf c40
                refine rg_iconst (pc := 130) (v := 0) C dX3_readItem_130 (by decide) ?_
                exact rg_zret (pc := 131) C hQ hr (by decide) hf dX3_readItem_131
              · replace hf := ra_f hf c40
                refine rg_iconst (pc := 126) (v := 1) C dX3_readItem_126 (by decide) ?_
                refine rg_goto (pc := 127) (tgt := 131) C dX3_readItem_127 (by decide) ?_
                exact rg_zret (pc := 131) C hQ hr (by decide) hf dX3_readItem_131
        · replace hf := ra_f hf c31
          refine rg_lookup (pc := 4) (off := 158) (tgt := 162) C dX3_readItem_4 (by decide) (by show Op.lookupswitch.offset [(97, 72), (99, 44), (114, 128), (119, 100)] _ _ = _; rw [lv_osw c1 (by decide), lv_osw c11 (by decide), lv_osw c21 (by decide), lv_osw c31 (by decide)]; rfl) (by decide) ?_
          refine rg_iconst (pc := 162) (v := 0) C dX3_readItem_162 (by decide) ?_
          exact rg_zret (pc := 163) C hQ hr (by decide) hf dX3_readItem_163
theorem tX3_readItem {Z : ra_Z} {r : Int32} {w1 : ra_W} (C : ra_C Z cX3_readItem 2 RX3 5 117) (hQ : ra_QI Z r w1) (hr : (zmt Z).sig.returnType = (some .boolean)) (k : Nat) (b1 : Nat) (h1 : ra_N b1) : ∀ n : Nat, pX3_readItem_0 Z r w1 k b1 n := by
  intro n
  induction n with
  | zero => exact (fun _ h => by cases h)
  | succ n ih => exact tX3_readItem_0 C hQ hr k b1 h1 n
theorem kX3_readItem (l : Launch) (G : ra_G) (hj : ra_inj G) (k : Nat) (b1 : Nat) (h1 : ra_N b1)  (w : ra_W) (r : Int32) (w1 : ra_W) (h : FX3_readItem k b1  w = some (r, w1)) : ra_MI l G yX3_readItem cX3_readItem 2 (some .boolean) 5 117 [.ref (G.1 1), .ref (G.1 b1)] w r w1 :=
  ra_entryI (own := RX3) (by decide) rfl (Nat.le_of_ble_eq_true rfl) hj (fun Z hl hG C hQ hr => by subst hl; subst hG; exact (tX3_readItem C hQ hr k b1 h1 k) _ h)
theorem ysX3_readItem : ra_YV yX3_readItem cX3_readItem 2 (some .boolean) 1 RX3 := ⟨⟨wd_2, wd_287, by decide, by decide, by decide⟩, wd_286, wp_3⟩
/-- TrunkRadio$Reader.readInto -/
def fX3_readInto (k : Nat) (b1 : Nat) : Nat → Nat → Int32 → ra_W → Option (Int32 × ra_W)
  | 0, _, _, _ => none
  | n + 1, L, v2, w => match L with
    | 0 => ra_bind (FX2_beginAnew k b1 w) (fun _ w2 => fX3_readInto k b1 n 1 0 (ra_st (ra_st (ra_st (ra_st w2 1 2 0) 1 6 0) 1 7 0) 1 8 0))
    | 1 => if 80 < v2 then (fX3_readInto k b1 n 2 0 w) else (ra_bind (FX3_readToken k w) (fun _ w3 => if (w3 1 4) = 0 then (some (v2, w3)) else (ra_bind (FX3_readItem k b1 w3) (fun r6 w7 => if r6 = 0 then (fX3_readInto k b1 n 2 0 w7) else (fX3_readInto k b1 n 1 (v2 + 1) w7)))))
    | _ => some (((-10) - (w 1 3)), w)
theorem fX3_readInto_0 (k : Nat) (b1 : Nat) (n : Nat) (v2 : Int32) (w : ra_W) : fX3_readInto k b1 (n + 1) 0 v2 w = (ra_bind (FX2_beginAnew k b1 w) (fun _ w2 => fX3_readInto k b1 n 1 0 (ra_st (ra_st (ra_st (ra_st w2 1 2 0) 1 6 0) 1 7 0) 1 8 0))) := rfl
theorem fX3_readInto_1 (k : Nat) (b1 : Nat) (n : Nat) (v2 : Int32) (w : ra_W) : fX3_readInto k b1 (n + 1) 1 v2 w = (if 80 < v2 then (fX3_readInto k b1 n 2 0 w) else (ra_bind (FX3_readToken k w) (fun _ w3 => if (w3 1 4) = 0 then (some (v2, w3)) else (ra_bind (FX3_readItem k b1 w3) (fun r6 w7 => if r6 = 0 then (fX3_readInto k b1 n 2 0 w7) else (fX3_readInto k b1 n 1 (v2 + 1) w7)))))) := rfl
theorem fX3_readInto_2 (k : Nat) (b1 : Nat) (n : Nat) (v2 : Int32) (w : ra_W) : fX3_readInto k b1 (n + 1) 2 v2 w = (some (((-10) - (w 1 3)), w)) := rfl
def FX3_readInto (k : Nat) (b1 : Nat)  (w : ra_W) : Option (Int32 × ra_W) := fX3_readInto k b1 k 0 0 w
def pX3_readInto_0 (Z : ra_Z) (r : Int32) (w1 : ra_W) (k : Nat) (b1 : Nat) (n : Nat) : Prop := ∀ (v2 : Int32) (w : ra_W), fX3_readInto k b1 n 0 v2 w = some (r, w1) → ra_J Z 3 0 [(0, .ref ((zG Z).1 1)), (1, .ref ((zG Z).1 b1))] [] w
def pX3_readInto_1 (Z : ra_Z) (r : Int32) (w1 : ra_W) (k : Nat) (b1 : Nat) (n : Nat) : Prop := ∀ (v2 : Int32) (w : ra_W), fX3_readInto k b1 n 1 v2 w = some (r, w1) → ra_J Z 3 26 [(0, .ref ((zG Z).1 1)), (1, .ref ((zG Z).1 b1)), (2, .int v2)] [] w
def pX3_readInto_2 (Z : ra_Z) (r : Int32) (w1 : ra_W) (k : Nat) (b1 : Nat) (n : Nat) : Prop := ∀ (v2 : Int32) (w : ra_W), fX3_readInto k b1 n 2 v2 w = some (r, w1) → ra_J Z 3 62 [(0, .ref ((zG Z).1 1)), (1, .ref ((zG Z).1 b1))] [] w
set_option maxHeartbeats 4000000 in
theorem tX3_readInto_0 {Z : ra_Z} {r : Int32} {w1 : ra_W} (C : ra_C Z cX3_readInto 3 RX3 6 138) (hQ : ra_QI Z r w1) (hr : (zmt Z).sig.returnType = (some .int)) (k : Nat) (b1 : Nat) (h1 : ra_N b1) (n : Nat) (ih1 : pX3_readInto_1 Z r w1 k b1 n) : pX3_readInto_0 Z r w1 k b1 (n + 1) := by
  intro v2 w hf
  rw [fX3_readInto_0] at hf
  refine rg_aload_n (pc := 0) C 1 rfl rfl dX3_readInto_0 ?_
  obtain ⟨r1, w2, e3, hf⟩ := ra_bd hf
  refine rg_callVV (pc := 1) (As := []) (st := []) C (kX2_beginAnew (zl Z) (zG Z) C.hj k b1 h1 _ _ _ e3) h1.1 (by decide) rfl ysX2_beginAnew rfl wd_265 ⟨Nat.le_of_ble_eq_true rfl, Nat.le_of_ble_eq_true rfl⟩ rfl (Nat.le_of_ble_eq_true rfl) dX3_readInto_1 ?_
  refine rg_aload_n (pc := 4) C 0 rfl rfl dX3_readInto_4 ?_
  refine rg_iconst (pc := 5) (v := 0) C dX3_readInto_5 (by decide) ?_
  refine rg_put (pc := 6) C 1 3 2 kd_1 (by decide) rfl inlX3 tyX3 tyX3_ok nmX3 (by decide) wd_28 rfl rfl rfl (Nat.le_of_ble_eq_true rfl) rfl dX3_readInto_6 ?_
  refine rg_aload_n (pc := 9) C 0 rfl rfl dX3_readInto_9 ?_
  refine rg_iconst (pc := 10) (v := 0) C dX3_readInto_10 (by decide) ?_
  refine rg_put (pc := 11) C 1 3 6 kd_1 (by decide) rfl inlX3 tyX3 tyX3_ok nmX3 (by decide) wd_32 rfl rfl rfl (Nat.le_of_ble_eq_true rfl) rfl dX3_readInto_11 ?_
  refine rg_aload_n (pc := 14) C 0 rfl rfl dX3_readInto_14 ?_
  refine rg_iconst (pc := 15) (v := 0) C dX3_readInto_15 (by decide) ?_
  refine rg_put (pc := 16) C 1 3 7 kd_1 (by decide) rfl inlX3 tyX3 tyX3_ok nmX3 (by decide) wd_33 rfl rfl rfl (Nat.le_of_ble_eq_true rfl) rfl dX3_readInto_16 ?_
  refine rg_aload_n (pc := 19) C 0 rfl rfl dX3_readInto_19 ?_
  refine rg_iconst (pc := 20) (v := 0) C dX3_readInto_20 (by decide) ?_
  refine rg_put (pc := 21) C 1 3 8 kd_1 (by decide) rfl inlX3 tyX3 tyX3_ok nmX3 (by decide) wd_34 rfl rfl rfl (Nat.le_of_ble_eq_true rfl) rfl dX3_readInto_21 ?_
  refine rg_iconst (pc := 24) (v := 0) C dX3_readInto_24 (by decide) ?_
  refine rg_istore_n (pc := 25) (lv' := [(0, .ref ((zG Z).1 1)), (1, .ref ((zG Z).1 b1)), (2, .int 0)]) C [1, 2, 0] rfl rfl (by decide) dX3_readInto_25 ?_
  exact ih1 _ _ hf
set_option maxHeartbeats 4000000 in
theorem tX3_readInto_1 {Z : ra_Z} {r : Int32} {w1 : ra_W} (C : ra_C Z cX3_readInto 3 RX3 6 138) (hQ : ra_QI Z r w1) (hr : (zmt Z).sig.returnType = (some .int)) (k : Nat) (b1 : Nat) (h1 : ra_N b1) (n : Nat) (ih1 : pX3_readInto_1 Z r w1 k b1 n) (ih2 : pX3_readInto_2 Z r w1 k b1 n) : pX3_readInto_1 Z r w1 k b1 (n + 1) := by
  intro v2 w hf
  rw [fX3_readInto_1] at hf
  refine rg_iload_n (pc := 26) C 2 rfl rfl dX3_readInto_26 ?_
  refine rg_bipush (pc := 27) (v := 80) C dX3_readInto_27 (by decide) ?_
  refine rg_icmp_gt (pc := 29) (tgt := 62) C dX3_readInto_29 (by decide) (fun c1 => ?_) (fun c1 => ?_)
  · replace hf := ra_t hf c1
    refine rg_sub [0, 1] rfl ?_
    exact ih2 _ _ hf
  · replace hf := ra_f hf c1
    refine rg_aload_n (pc := 32) C 0 rfl rfl dX3_readInto_32 ?_
    obtain ⟨r2, w3, e4, hf⟩ := ra_bd hf
    refine rg_callVV (pc := 33) (As := []) (st := []) C (kX3_readToken (zl Z) (zG Z) C.hj k _ _ _ e4) kd_1 (by decide) rfl ysX3_readToken rfl wd_266 ⟨Nat.le_of_ble_eq_true rfl, Nat.le_of_ble_eq_true rfl⟩ rfl (Nat.le_of_ble_eq_true rfl) dX3_readInto_33 ?_
    refine rg_aload_n (pc := 36) C 0 rfl rfl dX3_readInto_36 ?_
    refine rg_get (pc := 37) C 1 3 4 kd_1 (by decide) rfl inlX3 (by decide) wd_30 rfl dX3_readInto_37 ?_
    refine rg_if_ne (pc := 40) (tgt := 45) C dX3_readInto_40 (by decide) (fun c5 => ?_) (fun c5 => ?_)
    · replace hf := ra_f hf c5
      refine rg_aload_n (pc := 45) C 0 rfl rfl dX3_readInto_45 ?_
      refine rg_aload_n (pc := 46) C 1 rfl rfl dX3_readInto_46 ?_
      obtain ⟨r6, w7, e8, hf⟩ := ra_bd hf
      refine rg_callVI (pc := 47) (As := [.ref ((zG Z).1 b1)]) (st := []) C (kX3_readItem (zl Z) (zG Z) C.hj k b1 h1 _ _ _ e8) kd_1 (by decide) rfl ysX3_readItem rfl wd_284 ⟨Nat.le_of_ble_eq_true rfl, Nat.le_of_ble_eq_true rfl⟩ rfl (Nat.le_of_ble_eq_true rfl) dX3_readInto_47 ?_
      refine rg_if_ne (pc := 50) (tgt := 56) C dX3_readInto_50 (by decide) (fun c9 => ?_) (fun c9 => ?_)
      · replace hf := ra_f hf c9
        refine rg_iinc (pc := 56) (v := (v2 + 1)) (lv' := [(0, .ref ((zG Z).1 1)), (1, .ref ((zG Z).1 b1)), (2, .int (v2 + 1))]) C 2 rfl [1, 2, 0] (ra_ii (by decide)) rfl (by decide) dX3_readInto_56 ?_
        refine rg_goto (pc := 59) (tgt := 26) C dX3_readInto_59 (by decide) ?_
        exact ih1 _ _ hf
      · replace hf := ra_t hf c9
        refine rg_goto (pc := 53) (tgt := 62) C dX3_readInto_53 (by decide) ?_
        refine rg_sub [0, 1] rfl ?_
        exact ih2 _ _ hf
    · replace hf := ra_t hf c5
      refine rg_iload_n (pc := 43) C 2 rfl rfl dX3_readInto_43 ?_
      exact rg_iret (pc := 44) C hQ hr hf dX3_readInto_44
set_option maxHeartbeats 4000000 in
theorem tX3_readInto_2 {Z : ra_Z} {r : Int32} {w1 : ra_W} (C : ra_C Z cX3_readInto 3 RX3 6 138) (hQ : ra_QI Z r w1) (hr : (zmt Z).sig.returnType = (some .int)) (k : Nat) (b1 : Nat) (h1 : ra_N b1) (n : Nat) : pX3_readInto_2 Z r w1 k b1 (n + 1) := by
  intro v2 w hf
  rw [fX3_readInto_2] at hf
  refine rg_bipush (pc := 62) (v := (-10)) C dX3_readInto_62 (by decide) ?_
  refine rg_aload_n (pc := 64) C 0 rfl rfl dX3_readInto_64 ?_
  refine rg_get (pc := 65) C 1 3 3 kd_1 (by decide) rfl inlX3 (by decide) wd_29 rfl dX3_readInto_65 ?_
  refine rg_isub (pc := 68) C dX3_readInto_68 ?_
  exact rg_iret (pc := 69) C hQ hr hf dX3_readInto_69
theorem tX3_readInto {Z : ra_Z} {r : Int32} {w1 : ra_W} (C : ra_C Z cX3_readInto 3 RX3 6 138) (hQ : ra_QI Z r w1) (hr : (zmt Z).sig.returnType = (some .int)) (k : Nat) (b1 : Nat) (h1 : ra_N b1) : ∀ n : Nat, pX3_readInto_0 Z r w1 k b1 n ∧ pX3_readInto_1 Z r w1 k b1 n ∧ pX3_readInto_2 Z r w1 k b1 n := by
  intro n
  induction n with
  | zero => exact ⟨(fun _ _ h => by cases h), (fun _ _ h => by cases h), (fun _ _ h => by cases h)⟩
  | succ n ih =>
    obtain ⟨ih0, ih1, ih2⟩ := ih
    exact ⟨tX3_readInto_0 C hQ hr k b1 h1 n ih1, tX3_readInto_1 C hQ hr k b1 h1 n ih1 ih2, tX3_readInto_2 C hQ hr k b1 h1 n⟩
theorem kX3_readInto (l : Launch) (G : ra_G) (hj : ra_inj G) (k : Nat) (b1 : Nat) (h1 : ra_N b1)  (w : ra_W) (r : Int32) (w1 : ra_W) (h : FX3_readInto k b1  w = some (r, w1)) : ra_MI l G yX3_readInto cX3_readInto 3 (some .int) 6 138 [.ref (G.1 1), .ref (G.1 b1)] w r w1 :=
  ra_entryI (own := RX3) (by decide) rfl (Nat.le_of_ble_eq_true rfl) hj (fun Z hl hG C hQ hr => by subst hl; subst hG; exact (tX3_readInto C hQ hr k b1 h1 k).1 _ _ h)
theorem ysX3_readInto : ra_YV yX3_readInto cX3_readInto 3 (some .int) 1 RX3 := ⟨⟨wd_2, wd_264, by decide, by decide, by decide⟩, wd_262, wd_263⟩
