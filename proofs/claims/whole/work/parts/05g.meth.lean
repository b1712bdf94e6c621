/-- TrunkRadioModel.notes -/
def fX6_notes (k : Nat) : Nat → Nat → Int32 → ra_W → Option (Int32 × ra_W)
  | 0, _, _, _ => none
  | n + 1, L, v1, w => match L with
    | 0 => if (w 134 15) = 12 then (fX6_notes k n 1 0 w) else (fX6_notes k n 2 0 w)
    | 1 => if 451 ≤ v1 then (fX6_notes k n 2 0 (ra_st w 134 15 11)) else (if ra_in (v1 + 41) 492 then if ra_in v1 492 then fX6_notes k n 1 (v1 + 1) (ra_st w 141 (ra_ix v1) (w 141 (ra_ix (v1 + 41)))) else none else none)
    | 2 => fX6_notes k n 3 0 w
    | _ => if 41 ≤ v1 then (some (0, (ra_st w 134 15 ((w 134 15) + 1)))) else (if ra_in v1 41 then if ra_in ((41 * (w 134 15)) + v1) 492 then fX6_notes k n 3 (v1 + 1) (ra_st w 141 (ra_ix ((41 * (w 134 15)) + v1)) (w 139 (ra_ix v1))) else none else none)
theorem fX6_notes_0 (k : Nat) (n : Nat) (v1 : Int32) (w : ra_W) : fX6_notes k (n + 1) 0 v1 w = (if (w 134 15) = 12 then (fX6_notes k n 1 0 w) else (fX6_notes k n 2 0 w)) := rfl
theorem fX6_notes_1 (k : Nat) (n : Nat) (v1 : Int32) (w : ra_W) : fX6_notes k (n + 1) 1 v1 w = (if 451 ≤ v1 then (fX6_notes k n 2 0 (ra_st w 134 15 11)) else (if ra_in (v1 + 41) 492 then if ra_in v1 492 then fX6_notes k n 1 (v1 + 1) (ra_st w 141 (ra_ix v1) (w 141 (ra_ix (v1 + 41)))) else none else none)) := rfl
theorem fX6_notes_2 (k : Nat) (n : Nat) (v1 : Int32) (w : ra_W) : fX6_notes k (n + 1) 2 v1 w = (fX6_notes k n 3 0 w) := rfl
theorem fX6_notes_3 (k : Nat) (n : Nat) (v1 : Int32) (w : ra_W) : fX6_notes k (n + 1) 3 v1 w = (if 41 ≤ v1 then (some (0, (ra_st w 134 15 ((w 134 15) + 1)))) else (if ra_in v1 41 then if ra_in ((41 * (w 134 15)) + v1) 492 then fX6_notes k n 3 (v1 + 1) (ra_st w 141 (ra_ix ((41 * (w 134 15)) + v1)) (w 139 (ra_ix v1))) else none else none)) := rfl
def FX6_notes (k : Nat)  (w : ra_W) : Option (Int32 × ra_W) := fX6_notes k k 0 0 w
def pX6_notes_0 (Z : ra_Z) (r : Int32) (w1 : ra_W) (k : Nat) (n : Nat) : Prop := ∀ (v1 : Int32) (w : ra_W), fX6_notes k n 0 v1 w = some (r, w1) → ra_J Z 2 0 [(0, .ref ((zG Z).1 134))] [] w
def pX6_notes_1 (Z : ra_Z) (r : Int32) (w1 : ra_W) (k : Nat) (n : Nat) : Prop := ∀ (v1 : Int32) (w : ra_W), fX6_notes k n 1 v1 w = some (r, w1) → ra_J Z 2 11 [(0, .ref ((zG Z).1 134)), (1, .int v1)] [] w
def pX6_notes_2 (Z : ra_Z) (r : Int32) (w1 : ra_W) (k : Nat) (n : Nat) : Prop := ∀ (v1 : Int32) (w : ra_W), fX6_notes k n 2 v1 w = some (r, w1) → ra_J Z 2 45 [(0, .ref ((zG Z).1 134))] [] w
def pX6_notes_3 (Z : ra_Z) (r : Int32) (w1 : ra_W) (k : Nat) (n : Nat) : Prop := ∀ (v1 : Int32) (w : ra_W), fX6_notes k n 3 v1 w = some (r, w1) → ra_J Z 2 47 [(0, .ref ((zG Z).1 134)), (1, .int v1)] [] w
set_option maxHeartbeats 4000000 in
theorem tX6_notes_0 {Z : ra_Z} {r : Int32} {w1 : ra_W} (C : ra_C Z cX6_notes 2 RX6 0 0) (hQ : ra_QV Z r w1) (hr : (zmt Z).sig.returnType = none) (k : Nat) (n : Nat) (ih1 : pX6_notes_1 Z r w1 k n) (ih2 : pX6_notes_2 Z r w1 k n) : pX6_notes_0 Z r w1 k (n + 1) := by
  intro v1 w hf
  rw [fX6_notes_0] at hf
  refine rg_aload_n (pc := 0) C 0 rfl rfl dX6_notes_0 ?_
  refine rg_get (pc := 1) C 134 6 15 kd_134 (by decide) rfl inlX6 (by decide) wd_611 rfl dX6_notes_1 ?_
  refine rg_bipush (pc := 4) (v := 12) C dX6_notes_4 (by decide) ?_
  refine rg_icmp_ne (pc := 6) (tgt := 45) C dX6_notes_6 (by decide) (fun c1 => ?_) (fun c1 => ?_)
  · replace hf := ra_f hf c1
    exact ih2 _ _ hf
  · replace hf := ra_t hf c1
    refine rg_iconst (pc := 9) (v := 0) C dX6_notes_9 (by decide) ?_
    refine rg_istore_n (pc := 10) (lv' := [(0, .ref ((zG Z).1 134)), (1, .int 0)]) C [1, 0] rfl rfl (by decide) dX6_notes_10 ?_
    exact ih1 _ _ hf
set_option maxHeartbeats 4000000 in
theorem tX6_notes_1 {Z : ra_Z} {r : Int32} {w1 : ra_W} (C : ra_C Z cX6_notes 2 RX6 0 0) (hQ : ra_QV Z r w1) (hr : (zmt Z).sig.returnType = none) (k : Nat) (n : Nat) (ih1 : pX6_notes_1 Z r w1 k n) (ih2 : pX6_notes_2 Z r w1 k n) : pX6_notes_1 Z r w1 k (n + 1) := by
  intro v1 w hf
  rw [fX6_notes_1] at hf
  refine rg_iload_n (pc := 11) C 1 rfl rfl dX6_notes_11 ?_
  refine rg_sipush (pc := 12) (v := 451) C dX6_notes_12 (by decide) ?_
  refine rg_icmp_ge (pc := 15) (tgt := 39) C dX6_notes_15 (by decide) (fun c1 => ?_) (fun c1 => ?_)
  · replace hf := ra_t hf c1
    refine rg_aload_n (pc := 39) C 0 rfl rfl dX6_notes_39 ?_
    refine rg_bipush (pc := 40) (v := 11) C dX6_notes_40 (by decide) ?_
    refine rg_put (pc := 42) C 134 6 15 kd_134 (by decide) rfl inlX6 tyX6 tyX6_ok nmX6 (by decide) wd_611 rfl rfl rfl (Nat.le_of_ble_eq_true rfl) rfl dX6_notes_42 ?_
    refine rg_sub [0] rfl ?_
    exact ih2 _ _ hf
  · replace hf := ra_f hf c1
    refine rg_aload_n (pc := 18) C 0 rfl rfl dX6_notes_18 ?_
    refine rg_get (pc := 19) C 134 6 14 kd_134 (by decide) rfl inlX6 (by decide) wd_610 rfl dX6_notes_19 ?_
    refine rg_iload_n (pc := 22) C 1 rfl rfl dX6_notes_22 ?_
    refine rg_aload_n (pc := 23) C 0 rfl rfl dX6_notes_23 ?_
    refine rg_get (pc := 24) C 134 6 14 kd_134 (by decide) rfl inlX6 (by decide) wd_610 rfl dX6_notes_24 ?_
    refine rg_iload_n (pc := 27) C 1 rfl rfl dX6_notes_27 ?_
    refine rg_bipush (pc := 28) (v := 41) C dX6_notes_28 (by decide) ?_
    refine rg_iadd (pc := 30) C dX6_notes_30 ?_
    obtain ⟨g2, hf⟩ := ra_gd hf
    refine rg_iald (pc := 31) (j := (ra_ix (v1 + 41))) C 141 kd_141 rfl g2 dX6_notes_31 ?_
    obtain ⟨g3, hf⟩ := ra_gd hf
    refine rg_iast (pc := 32) (j := (ra_ix v1)) C 141 kd_141 rfl g3 dX6_notes_32 ?_
    refine rg_iinc (pc := 33) (v := (v1 + 1)) (lv' := [(0, .ref ((zG Z).1 134)), (1, .int (v1 + 1))]) C 1 rfl [1, 0] (ra_ii (by decide)) rfl (by decide) dX6_notes_33 ?_
    refine rg_goto (pc := 36) (tgt := 11) C dX6_notes_36 (by decide) ?_
    exact ih1 _ _ hf
set_option maxHeartbeats 4000000 in
theorem tX6_notes_2 {Z : ra_Z} {r : Int32} {w1 : ra_W} (C : ra_C Z cX6_notes 2 RX6 0 0) (hQ : ra_QV Z r w1) (hr : (zmt Z).sig.returnType = none) (k : Nat) (n : Nat) (ih3 : pX6_notes_3 Z r w1 k n) : pX6_notes_2 Z r w1 k (n + 1) := by
  intro v1 w hf
  rw [fX6_notes_2] at hf
  refine rg_iconst (pc := 45) (v := 0) C dX6_notes_45 (by decide) ?_
  refine rg_istore_n (pc := 46) (lv' := [(0, .ref ((zG Z).1 134)), (1, .int 0)]) C [1, 0] rfl rfl (by decide) dX6_notes_46 ?_
  exact ih3 _ _ hf
set_option maxHeartbeats 4000000 in
theorem tX6_notes_3 {Z : ra_Z} {r : Int32} {w1 : ra_W} (C : ra_C Z cX6_notes 2 RX6 0 0) (hQ : ra_QV Z r w1) (hr : (zmt Z).sig.returnType = none) (k : Nat) (n : Nat) (ih3 : pX6_notes_3 Z r w1 k n) : pX6_notes_3 Z r w1 k (n + 1) := by
  intro v1 w hf
  rw [fX6_notes_3] at hf
  refine rg_iload_n (pc := 47) C 1 rfl rfl dX6_notes_47 ?_
  refine rg_bipush (pc := 48) (v := 41) C dX6_notes_48 (by decide) ?_
  refine rg_icmp_ge (pc := 50) (tgt := 79) C dX6_notes_50 (by decide) (fun c1 => ?_) (fun c1 => ?_)
  · replace hf := ra_t hf c1
    refine rg_aload_n (pc := 79) C 0 rfl rfl dX6_notes_79 ?_
    refine rg_dup (pc := 80) C rfl dX6_notes_80 ?_
    refine rg_get (pc := 81) C 134 6 15 kd_134 (by decide) rfl inlX6 (by decide) wd_611 rfl dX6_notes_81 ?_
    refine rg_iconst (pc := 84) (v := 1) C dX6_notes_84 (by decide) ?_
    refine rg_iadd (pc := 85) C dX6_notes_85 ?_
    refine rg_put (pc := 86) C 134 6 15 kd_134 (by decide) rfl inlX6 tyX6 tyX6_ok nmX6 (by decide) wd_611 rfl rfl rfl (Nat.le_of_ble_eq_true rfl) rfl dX6_notes_86 ?_
    exact rg_vret (pc := 89) C hQ hr hf dX6_notes_89
  · replace hf := ra_f hf c1
    refine rg_aload_n (pc := 53) C 0 rfl rfl dX6_notes_53 ?_
    refine rg_get (pc := 54) C 134 6 14 kd_134 (by decide) rfl inlX6 (by decide) wd_610 rfl dX6_notes_54 ?_
    refine rg_bipush (pc := 57) (v := 41) C dX6_notes_57 (by decide) ?_
    refine rg_aload_n (pc := 59) C 0 rfl rfl dX6_notes_59 ?_
    refine rg_get (pc := 60) C 134 6 15 kd_134 (by decide) rfl inlX6 (by decide) wd_611 rfl dX6_notes_60 ?_
    refine rg_imul (pc := 63) C dX6_notes_63 ?_
    refine rg_iload_n (pc := 64) C 1 rfl rfl dX6_notes_64 ?_
    refine rg_iadd (pc := 65) C dX6_notes_65 ?_
    refine rg_aload_n (pc := 66) C 0 rfl rfl dX6_notes_66 ?_
    refine rg_get (pc := 67) C 134 6 12 kd_134 (by decide) rfl inlX6 (by decide) wd_608 rfl dX6_notes_67 ?_
    refine rg_iload_n (pc := 70) C 1 rfl rfl dX6_notes_70 ?_
    obtain ⟨g2, hf⟩ := ra_gd hf
    refine rg_iald (pc := 71) (j := (ra_ix v1)) C 139 kd_139 rfl g2 dX6_notes_71 ?_
    obtain ⟨g3, hf⟩ := ra_gd hf
    refine rg_iast (pc := 72) (j := (ra_ix ((41 * (w 134 15)) + v1))) C 141 kd_141 rfl g3 dX6_notes_72 ?_
    refine rg_iinc (pc := 73) (v := (v1 + 1)) (lv' := [(0, .ref ((zG Z).1 134)), (1, .int (v1 + 1))]) C 1 rfl [1, 0] (ra_ii (by decide)) rfl (by decide) dX6_notes_73 ?_
    refine rg_goto (pc := 76) (tgt := 47) C dX6_notes_76 (by decide) ?_
    exact ih3 _ _ hf
theorem tX6_notes {Z : ra_Z} {r : Int32} {w1 : ra_W} (C : ra_C Z cX6_notes 2 RX6 0 0) (hQ : ra_QV Z r w1) (hr : (zmt Z).sig.returnType = none) (k : Nat) : ∀ n : Nat, pX6_notes_0 Z r w1 k n ∧ pX6_notes_1 Z r w1 k n ∧ pX6_notes_2 Z r w1 k n ∧ pX6_notes_3 Z r w1 k n := by
  intro n
  induction n with
  | zero => exact ⟨(fun _ _ h => by cases h), (fun _ _ h => by cases h), (fun _ _ h => by cases h), (fun _ _ h => by cases h)⟩
  | succ n ih =>
    obtain ⟨ih0, ih1, ih2, ih3⟩ := ih
    exact ⟨tX6_notes_0 C hQ hr k n ih1 ih2, tX6_notes_1 C hQ hr k n ih1 ih2, tX6_notes_2 C hQ hr k n ih3, tX6_notes_3 C hQ hr k n ih3⟩
theorem kX6_notes (l : Launch) (G : ra_G) (hj : ra_inj G) (k : Nat)  (w : ra_W) (r : Int32) (w1 : ra_W) (h : FX6_notes k  w = some (r, w1)) : ra_MV l G yX6_notes cX6_notes 2 none 0 0 [.ref (G.1 134)] w r w1 :=
  ra_entryV (own := RX6) (by decide) rfl (Nat.le_of_ble_eq_true rfl) hj (fun Z hl hG C hQ hr => by subst hl; subst hG; exact (tX6_notes C hQ hr k k).1 _ _ h)
theorem ysX6_notes : ra_YV yX6_notes cX6_notes 2 none 0 RX6 := ⟨⟨wd_7, wd_726, by decide, by decide, by decide⟩, wd_725, wp_28⟩
/-- TrunkRadioModel.ticks -/
def fX6_ticks (k : Nat) : Nat → Nat → Int32 → Int32 → Int32 → Int32 → Int32 → ra_W → Option (Int32 × ra_W)
  | 0, _, _, _, _, _, _, _ => none
  | n + 1, L, v1, v2, v3, s0, s1, w => match L with
    | 0 => ra_bind (FX6_in k v1 1 12 (ra_st w 134 0 0)) (fun r1 w2 => if r1 = 0 then (some ((-1), w2)) else (if ((w2 139 2) + v1) ≤ 999 then (fX6_ticks k n 1 v1 0 0 0 0 w2) else (some ((-3), w2))))
    | 1 => if v1 ≤ v2 then (fX6_ticks k n 2 0 0 0 0 0 w) else (ra_bind (FX6_notes k w) (fun _ w3 => ra_bind (FX6_goes k 139 w3) (fun _ w6 => fX6_ticks k n 1 v1 (v2 + 1) 0 0 0 w6)))
    | 2 => if (w 136 0) ≤ v3 then (some (v2, w)) else (ra_bind (FX6_isOn k 139 v3 w) (fun r2 w3 => if r2 = 0 then (fX6_ticks k n 3 0 0 v3 0 v2 w3) else (fX6_ticks k n 3 0 0 v3 1 v2 w3)))
    | _ => fX6_ticks k n 2 0 (s1 + s0) (v3 + 1) 0 0 w
theorem fX6_ticks_0 (k : Nat) (n : Nat) (v1 : Int32) (v2 : Int32) (v3 : Int32) (s0 : Int32) (s1 : Int32) (w : ra_W) : fX6_ticks k (n + 1) 0 v1 v2 v3 s0 s1 w = (ra_bind (FX6_in k v1 1 12 (ra_st w 134 0 0)) (fun r1 w2 => if r1 = 0 then (some ((-1), w2)) else (if ((w2 139 2) + v1) ≤ 999 then (fX6_ticks k n 1 v1 0 0 0 0 w2) else (some ((-3), w2))))) := rfl
theorem fX6_ticks_1 (k : Nat) (n : Nat) (v1 : Int32) (v2 : Int32) (v3 : Int32) (s0 : Int32) (s1 : Int32) (w : ra_W) : fX6_ticks k (n + 1) 1 v1 v2 v3 s0 s1 w = (if v1 ≤ v2 then (fX6_ticks k n 2 0 0 0 0 0 w) else (ra_bind (FX6_notes k w) (fun _ w3 => ra_bind (FX6_goes k 139 w3) (fun _ w6 => fX6_ticks k n 1 v1 (v2 + 1) 0 0 0 w6)))) := rfl
theorem fX6_ticks_2 (k : Nat) (n : Nat) (v1 : Int32) (v2 : Int32) (v3 : Int32) (s0 : Int32) (s1 : Int32) (w : ra_W) : fX6_ticks k (n + 1) 2 v1 v2 v3 s0 s1 w = (if (w 136 0) ≤ v3 then (some (v2, w)) else (ra_bind (FX6_isOn k 139 v3 w) (fun r2 w3 => if r2 = 0 then (fX6_ticks k n 3 0 0 v3 0 v2 w3) else (fX6_ticks k n 3 0 0 v3 1 v2 w3)))) := rfl
theorem fX6_ticks_3 (k : Nat) (n : Nat) (v1 : Int32) (v2 : Int32) (v3 : Int32) (s0 : Int32) (s1 : Int32) (w : ra_W) : fX6_ticks k (n + 1) 3 v1 v2 v3 s0 s1 w = (fX6_ticks k n 2 0 (s1 + s0) (v3 + 1) 0 0 w) := rfl
def FX6_ticks (k : Nat) (v1 : Int32) (w : ra_W) : Option (Int32 × ra_W) := fX6_ticks k k 0 v1 0 0 0 0 w
def pX6_ticks_0 (Z : ra_Z) (r : Int32) (w1 : ra_W) (k : Nat) (n : Nat) : Prop := ∀ (v1 : Int32) (v2 : Int32) (v3 : Int32) (s0 : Int32) (s1 : Int32) (w : ra_W), fX6_ticks k n 0 v1 v2 v3 s0 s1 w = some (r, w1) → ra_J Z 4 0 [(0, .ref ((zG Z).1 134)), (1, .int v1)] [] w
def pX6_ticks_1 (Z : ra_Z) (r : Int32) (w1 : ra_W) (k : Nat) (n : Nat) : Prop := ∀ (v1 : Int32) (v2 : Int32) (v3 : Int32) (s0 : Int32) (s1 : Int32) (w : ra_W), fX6_ticks k n 1 v1 v2 v3 s0 s1 w = some (r, w1) → ra_J Z 4 36 [(0, .ref ((zG Z).1 134)), (1, .int v1), (2, .int v2)] [] w
def pX6_ticks_2 (Z : ra_Z) (r : Int32) (w1 : ra_W) (k : Nat) (n : Nat) : Prop := ∀ (v1 : Int32) (v2 : Int32) (v3 : Int32) (s0 : Int32) (s1 : Int32) (w : ra_W), fX6_ticks k n 2 v1 v2 v3 s0 s1 w = some (r, w1) → ra_J Z 4 63 [(0, .ref ((zG Z).1 134)), (2, .int v2), (3, .int v3)] [] w
def pX6_ticks_3 (Z : ra_Z) (r : Int32) (w1 : ra_W) (k : Nat) (n : Nat) : Prop := ∀ (v1 : Int32) (v2 : Int32) (v3 : Int32) (s0 : Int32) (s1 : Int32) (w : ra_W), fX6_ticks k n 3 v1 v2 v3 s0 s1 w = some (r, w1) → ra_J Z 4 91 [(0, .ref ((zG Z).1 134)), (3, .int v3)] [.int s0, .int s1] w
set_option maxHeartbeats 4000000 in
theorem tX6_ticks_0 {Z : ra_Z} {r : Int32} {w1 : ra_W} (C : ra_C Z cX6_ticks 4 RX6 5 116) (hQ : ra_QI Z r w1) (hr : (zmt Z).sig.returnType = (some .int)) (k : Nat) (n : Nat) (ih1 : pX6_ticks_1 Z r w1 k n) : pX6_ticks_0 Z r w1 k (n + 1) := by
  intro v1 v2 v3 s0 s1 w hf
  rw [fX6_ticks_0] at hf
  refine rg_aload_n (pc := 0) C 0 rfl rfl dX6_ticks_0 ?_
  refine rg_iconst (pc := 1) (v := 0) C dX6_ticks_1 (by decide) ?_
  refine rg_put (pc := 2) C 134 6 0 kd_134 (by decide) rfl inlX6 tyX6 tyX6_ok nmX6 (by decide) wd_596 rfl rfl rfl (Nat.le_of_ble_eq_true rfl) rfl dX6_ticks_2 ?_
  refine rg_iload_n (pc := 5) C 1 rfl rfl dX6_ticks_5 ?_
  refine rg_iconst (pc := 6) (v := 1) C dX6_ticks_6 (by decide) ?_
  refine rg_bipush (pc := 7) (v := 12) C dX6_ticks_7 (by decide) ?_
  obtain ⟨r1, w2, e3, hf⟩ := ra_bd hf
  refine rg_callSI (pc := 9) (As := [.int v1, .int 1, .int 12]) (st := []) C (kX6_in (zl Z) (zG Z) C.hj k _ _ _ _ _ _ e3) ysX6_in rfl wd_677 ⟨Nat.le_of_ble_eq_true rfl, Nat.le_of_ble_eq_true rfl⟩ rfl (Nat.le_of_ble_eq_true rfl) dX6_ticks_9 ?_
  refine rg_if_ne (pc := 12) (tgt := 17) C dX6_ticks_12 (by decide) (fun c4 => ?_) (fun c4 => ?_)
  · replace hf := ra_f hf c4
    refine rg_aload_n (pc := 17) C 0 rfl rfl dX6_ticks_17 ?_
    refine rg_get (pc := 18) C 134 6 12 kd_134 (by decide) rfl inlX6 (by decide) wd_608 rfl dX6_ticks_18 ?_
    refine rg_iconst (pc := 21) (v := 2) C dX6_ticks_21 (by decide) ?_
    refine rg_iald (pc := 22) (j := 2) C 139 kd_139 (by decide) (by decide) dX6_ticks_22 ?_
    refine rg_iload_n (pc := 23) C 1 rfl rfl dX6_ticks_23 ?_
    refine rg_iadd (pc := 24) C dX6_ticks_24 ?_
    refine rg_sipush (pc := 25) (v := 999) C dX6_ticks_25 (by decide) ?_
    refine rg_icmp_le (pc := 28) (tgt := 34) C dX6_ticks_28 (by decide) (fun c5 => ?_) (fun c5 => ?_)
    · replace hf := ra_t hf c5
      refine rg_iconst (pc := 34) (v := 0) C dX6_ticks_34 (by decide) ?_
      refine rg_istore_n (pc := 35) (lv' := [(0, .ref ((zG Z).1 134)), (1, .int v1), (2, .int 0)]) C [1, 2, 0] rfl rfl (by decide) dX6_ticks_35 ?_
      exact ih1 _ _ _ _ _ _ hf
    · replace hf := ra_f hf c5
      refine rg_bipush (pc := 31) (v := (-3)) C dX6_ticks_31 (by decide) ?_
      exact rg_iret (pc := 33) C hQ hr hf dX6_ticks_33
  · replace hf := ra_t hf c4
    refine rg_iconst (pc := 15) (v := (-1)) C dX6_ticks_15 (by decide) ?_
    exact rg_iret (pc := 16) C hQ hr hf dX6_ticks_16
set_option maxHeartbeats 4000000 in
theorem tX6_ticks_1 {Z : ra_Z} {r : Int32} {w1 : ra_W} (C : ra_C Z cX6_ticks 4 RX6 5 116) (hQ : ra_QI Z r w1) (hr : (zmt Z).sig.returnType = (some .int)) (k : Nat) (n : Nat) (ih1 : pX6_ticks_1 Z r w1 k n) (ih2 : pX6_ticks_2 Z r w1 k n) : pX6_ticks_1 Z r w1 k (n + 1) := by
  intro v1 v2 v3 s0 s1 w hf
  rw [fX6_ticks_1] at hf
  refine rg_iload_n (pc := 36) C 2 rfl rfl dX6_ticks_36 ?_
  refine rg_iload_n (pc := 37) C 1 rfl rfl dX6_ticks_37 ?_
  refine rg_icmp_ge (pc := 38) (tgt := 59) C dX6_ticks_38 (by decide) (fun c1 => ?_) (fun c1 => ?_)
  · replace hf := ra_t hf c1
    refine rg_iconst (pc := 59) (v := 0) C dX6_ticks_59 (by decide) ?_
    refine rg_istore_n (pc := 60) (lv' := [(0, .ref ((zG Z).1 134)), (1, .int v1), (2, .int 0)]) C [1, 2, 0] rfl rfl (by decide) dX6_ticks_60 ?_
    refine rg_iconst (pc := 61) (v := 0) C dX6_ticks_61 (by decide) ?_
    refine rg_istore_n (pc := 62) (lv' := [(0, .ref ((zG Z).1 134)), (1, .int v1), (2, .int 0), (3, .int 0)]) C [1, 2, 3, 0] rfl rfl (by decide) dX6_ticks_62 ?_
    refine rg_sub [0, 2, 3] rfl ?_
    exact ih2 _ _ _ _ _ _ hf
  · replace hf := ra_f hf c1
    refine rg_aload_n (pc := 41) C 0 rfl rfl dX6_ticks_41 ?_
    obtain ⟨r2, w3, e4, hf⟩ := ra_bd hf
    refine rg_callVV (pc := 42) (As := []) (st := []) C (kX6_notes (zl Z) (zG Z) C.hj k _ _ _ e4) kd_134 (by decide) rfl ysX6_notes rfl wd_723 ⟨Nat.le_of_ble_eq_true rfl, Nat.le_of_ble_eq_true rfl⟩ rfl (Nat.le_of_ble_eq_true rfl) dX6_ticks_42 ?_
    refine rg_aload_n (pc := 45) C 0 rfl rfl dX6_ticks_45 ?_
    refine rg_aload_n (pc := 46) C 0 rfl rfl dX6_ticks_46 ?_
    refine rg_get (pc := 47) C 134 6 12 kd_134 (by decide) rfl inlX6 (by decide) wd_608 rfl dX6_ticks_47 ?_
    obtain ⟨r5, w6, e7, hf⟩ := ra_bd hf
    refine rg_callVV (pc := 50) (As := [.ref ((zG Z).1 139)]) (st := []) C (kX6_goes (zl Z) (zG Z) C.hj k 139 kd_139 _ _ _ e7) kd_134 (by decide) rfl ysX6_goes rfl wd_727 ⟨Nat.le_of_ble_eq_true rfl, Nat.le_of_ble_eq_true rfl⟩ rfl (Nat.le_of_ble_eq_true rfl) dX6_ticks_50 ?_
    refine rg_iinc (pc := 53) (v := (v2 + 1)) (lv' := [(0, .ref ((zG Z).1 134)), (1, .int v1), (2, .int (v2 + 1))]) C 2 rfl [1, 2, 0] (ra_ii (by decide)) rfl (by decide) dX6_ticks_53 ?_
    refine rg_goto (pc := 56) (tgt := 36) C dX6_ticks_56 (by decide) ?_
    exact ih1 _ _ _ _ _ _ hf
set_option maxHeartbeats 4000000 in
theorem tX6_ticks_2 {Z : ra_Z} {r : Int32} {w1 : ra_W} (C : ra_C Z cX6_ticks 4 RX6 5 116) (hQ : ra_QI Z r w1) (hr : (zmt Z).sig.returnType = (some .int)) (k : Nat) (n : Nat) (ih3 : pX6_ticks_3 Z r w1 k n) : pX6_ticks_2 Z r w1 k (n + 1) := by
  intro v1 v2 v3 s0 s1 w hf
  rw [fX6_ticks_2] at hf
  refine rg_iload_n (pc := 63) C 2 rfl rfl dX6_ticks_63 ?_
  refine rg_aload_n (pc := 64) C 0 rfl rfl dX6_ticks_64 ?_
  refine rg_get (pc := 65) C 134 6 9 kd_134 (by decide) rfl inlX6 (by decide) wd_605 rfl dX6_ticks_65 ?_
  refine rg_iconst (pc := 68) (v := 0) C dX6_ticks_68 (by decide) ?_
  refine rg_iald (pc := 69) (j := 0) C 136 kd_136 (by decide) (by decide) dX6_ticks_69 ?_
  refine rg_icmp_ge (pc := 70) (tgt := 99) C dX6_ticks_70 (by decide) (fun c1 => ?_) (fun c1 => ?_)
  · replace hf := ra_t hf c1
    refine rg_iload_n (pc := 99) C 1 rfl rfl dX6_ticks_99 ?_
    exact rg_iret (pc := 100) C hQ hr hf dX6_ticks_100
  · replace hf := ra_f hf c1
    refine rg_iload_n (pc := 73) C 1 rfl rfl dX6_ticks_73 ?_
    refine rg_aload_n (pc := 74) C 0 rfl rfl dX6_ticks_74 ?_
    refine rg_aload_n (pc := 75) C 0 rfl rfl dX6_ticks_75 ?_
    refine rg_get (pc := 76) C 134 6 12 kd_134 (by decide) rfl inlX6 (by decide) wd_608 rfl dX6_ticks_76 ?_
    refine rg_iload_n (pc := 79) C 2 rfl rfl dX6_ticks_79 ?_
    obtain ⟨r2, w3, e4, hf⟩ := ra_bd hf
    refine rg_callVI (pc := 80) (As := [.ref ((zG Z).1 139), .int v3]) (st := [.int v2]) C (kX6_isOn (zl Z) (zG Z) C.hj k 139 kd_139 _ _ _ _ e4) kd_134 (by decide) rfl ysX6_isOn rfl wd_792 ⟨Nat.le_of_ble_eq_true rfl, Nat.le_of_ble_eq_true rfl⟩ rfl (Nat.le_of_ble_eq_true rfl) dX6_ticks_80 ?_
    refine rg_if_eq (pc := 83) (tgt := 90) C dX6_ticks_83 (by decide) (fun c5 => ?_) (fun c5 => ?_)
    · replace hf := ra_t hf c5
      refine rg_iconst (pc := 90) (v := 0) C dX6_ticks_90 (by decide) ?_
      refine rg_sub [0, 2] rfl ?_
      exact ih3 _ _ _ _ _ _ hf
    · replace hf := ra_f hf c5
      refine rg_iconst (pc := 86) (v := 1) C dX6_ticks_86 (by decide) ?_
      refine rg_goto (pc := 87) (tgt := 91) C dX6_ticks_87 (by decide) ?_
      refine rg_sub [0, 2] rfl ?_
      exact ih3 _ _ _ _ _ _ hf
set_option maxHeartbeats 4000000 in
theorem tX6_ticks_3 {Z : ra_Z} {r : Int32} {w1 : ra_W} (C : ra_C Z cX6_ticks 4 RX6 5 116) (hQ : ra_QI Z r w1) (hr : (zmt Z).sig.returnType = (some .int)) (k : Nat) (n : Nat) (ih2 : pX6_ticks_2 Z r w1 k n) : pX6_ticks_3 Z r w1 k (n + 1) := by
  intro v1 v2 v3 s0 s1 w hf
  rw [fX6_ticks_3] at hf
  refine rg_iadd (pc := 91) C dX6_ticks_91 ?_
  refine rg_istore_n (pc := 92) (lv' := [(0, .ref ((zG Z).1 134)), (2, .int (s1 + s0)), (3, .int v3)]) C [1, 0, 2] rfl rfl (by decide) dX6_ticks_92 ?_
  refine rg_iinc (pc := 93) (v := (v3 + 1)) (lv' := [(0, .ref ((zG Z).1 134)), (2, .int (s1 + s0)), (3, .int (v3 + 1))]) C 2 rfl [1, 2, 0] (ra_ii (by decide)) rfl (by decide) dX6_ticks_93 ?_
  refine rg_goto (pc := 96) (tgt := 63) C dX6_ticks_96 (by decide) ?_
  exact ih2 _ _ _ _ _ _ hf
theorem tX6_ticks {Z : ra_Z} {r : Int32} {w1 : ra_W} (C : ra_C Z cX6_ticks 4 RX6 5 116) (hQ : ra_QI Z r w1) (hr : (zmt Z).sig.returnType = (some .int)) (k : Nat) : ∀ n : Nat, pX6_ticks_0 Z r w1 k n ∧ pX6_ticks_1 Z r w1 k n ∧ pX6_ticks_2 Z r w1 k n ∧ pX6_ticks_3 Z r w1 k n := by
  intro n
  induction n with
  | zero => exact ⟨(fun _ _ _ _ _ _ h => by cases h), (fun _ _ _ _ _ _ h => by cases h), (fun _ _ _ _ _ _ h => by cases h), (fun _ _ _ _ _ _ h => by cases h)⟩
  | succ n ih =>
    obtain ⟨ih0, ih1, ih2, ih3⟩ := ih
    exact ⟨tX6_ticks_0 C hQ hr k n ih1, tX6_ticks_1 C hQ hr k n ih1 ih2, tX6_ticks_2 C hQ hr k n ih3, tX6_ticks_3 C hQ hr k n ih2⟩
theorem kX6_ticks (l : Launch) (G : ra_G) (hj : ra_inj G) (k : Nat) (v1 : Int32) (w : ra_W) (r : Int32) (w1 : ra_W) (h : FX6_ticks k v1 w = some (r, w1)) : ra_MI l G yX6_ticks cX6_ticks 4 (some .int) 5 116 [.ref (G.1 134), .int v1] w r w1 :=
  ra_entryI (own := RX6) (by decide) rfl (Nat.le_of_ble_eq_true rfl) hj (fun Z hl hG C hQ hr => by subst hl; subst hG; exact (tX6_ticks C hQ hr k k).1 _ _ _ _ _ _ h)
theorem ysX6_ticks : ra_YV yX6_ticks cX6_ticks 4 (some .int) 1 RX6 := ⟨⟨wd_7, wd_722, by decide, by decide, by decide⟩, wd_720, wd_721⟩
/-- TrunkRadioModel.presses -/
def fX6_presses (k : Nat) : Nat → Nat → Int32 → Int32 → ra_W → Option (Int32 × ra_W)
  | 0, _, _, _, _ => none
  | n + 1, L, v1, v2, w => match L with
    | _ => ra_bind (FX6_isRadio k v1 (ra_st w 134 0 0)) (fun r1 w2 => if r1 = 0 then (some ((-1), w2)) else (ra_bind (FX6_in k v2 0 1 w2) (fun r5 w6 => if r5 = 0 then (some ((-1), w6)) else (if ra_in (13 + v1) 41 then if (w6 139 (ra_ix (13 + v1))) = 0 then (ra_bind (FX6_notes k w6) (fun _ w12 => if ra_in (27 + v1) 41 then if ra_in (6 + v1) 41 then some (((ra_st (ra_st w12 139 (ra_ix (13 + v1)) 1) 139 (ra_ix (27 + v1)) v2) 139 (ra_ix (6 + v1))), (ra_st (ra_st w12 139 (ra_ix (13 + v1)) 1) 139 (ra_ix (27 + v1)) v2)) else none else none)) else (some ((-2), w6)) else none))))
theorem fX6_presses_0 (k : Nat) (n : Nat) (v1 : Int32) (v2 : Int32) (w : ra_W) : fX6_presses k (n + 1) 0 v1 v2 w = (ra_bind (FX6_isRadio k v1 (ra_st w 134 0 0)) (fun r1 w2 => if r1 = 0 then (some ((-1), w2)) else (ra_bind (FX6_in k v2 0 1 w2) (fun r5 w6 => if r5 = 0 then (some ((-1), w6)) else (if ra_in (13 + v1) 41 then if (w6 139 (ra_ix (13 + v1))) = 0 then (ra_bind (FX6_notes k w6) (fun _ w12 => if ra_in (27 + v1) 41 then if ra_in (6 + v1) 41 then some (((ra_st (ra_st w12 139 (ra_ix (13 + v1)) 1) 139 (ra_ix (27 + v1)) v2) 139 (ra_ix (6 + v1))), (ra_st (ra_st w12 139 (ra_ix (13 + v1)) 1) 139 (ra_ix (27 + v1)) v2)) else none else none)) else (some ((-2), w6)) else none))))) := rfl
def FX6_presses (k : Nat) (v1 : Int32) (v2 : Int32) (w : ra_W) : Option (Int32 × ra_W) := fX6_presses k k 0 v1 v2 w
def pX6_presses_0 (Z : ra_Z) (r : Int32) (w1 : ra_W) (k : Nat) (n : Nat) : Prop := ∀ (v1 : Int32) (v2 : Int32) (w : ra_W), fX6_presses k n 0 v1 v2 w = some (r, w1) → ra_J Z 3 0 [(0, .ref ((zG Z).1 134)), (1, .int v1), (2, .int v2)] [] w
set_option maxHeartbeats 4000000 in
theorem tX6_presses_0 {Z : ra_Z} {r : Int32} {w1 : ra_W} (C : ra_C Z cX6_presses 3 RX6 2 43) (hQ : ra_QI Z r w1) (hr : (zmt Z).sig.returnType = (some .int)) (k : Nat) (n : Nat) : pX6_presses_0 Z r w1 k (n + 1) := by
  intro v1 v2 w hf
  rw [fX6_presses_0] at hf
  refine rg_aload_n (pc := 0) C 0 rfl rfl dX6_presses_0 ?_
  refine rg_iconst (pc := 1) (v := 0) C dX6_presses_1 (by decide) ?_
  refine rg_put (pc := 2) C 134 6 0 kd_134 (by decide) rfl inlX6 tyX6 tyX6_ok nmX6 (by decide) wd_596 rfl rfl rfl (Nat.le_of_ble_eq_true rfl) rfl dX6_presses_2 ?_
  refine rg_aload_n (pc := 5) C 0 rfl rfl dX6_presses_5 ?_
  refine rg_iload_n (pc := 6) C 1 rfl rfl dX6_presses_6 ?_
  obtain ⟨r1, w2, e3, hf⟩ := ra_bd hf
  refine rg_callVI (pc := 7) (As := [.int v1]) (st := []) C (kX6_isRadio (zl Z) (zG Z) C.hj k _ _ _ _ e3) kd_134 (by decide) rfl ysX6_isRadio rfl wd_800 ⟨Nat.le_of_ble_eq_true rfl, Nat.le_of_ble_eq_true rfl⟩ rfl (Nat.le_of_ble_eq_true rfl) dX6_presses_7 ?_
  refine rg_if_eq (pc := 10) (tgt := 22) C dX6_presses_10 (by decide) (fun c4 => ?_) (fun c4 => ?_)
  · replace hf := ra_t hf c4
    refine rg_iconst (pc := 22) (v := (-1)) C dX6_presses_22 (by decide) ?_
    exact rg_iret (pc := 23) C hQ hr hf dX6_presses_23
  · replace hf := ra_f hf c4
    refine rg_iload_n (pc := 13) C 2 rfl rfl dX6_presses_13 ?_
    refine rg_iconst (pc := 14) (v := 0) C dX6_presses_14 (by decide) ?_
    refine rg_iconst (pc := 15) (v := 1) C dX6_presses_15 (by decide) ?_
    obtain ⟨r5, w6, e7, hf⟩ := ra_bd hf
    refine rg_callSI (pc := 16) (As := [.int v2, .int 0, .int 1]) (st := []) C (kX6_in (zl Z) (zG Z) C.hj k _ _ _ _ _ _ e7) ysX6_in rfl wd_677 ⟨Nat.le_of_ble_eq_true rfl, Nat.le_of_ble_eq_true rfl⟩ rfl (Nat.le_of_ble_eq_true rfl) dX6_presses_16 ?_
    refine rg_if_ne (pc := 19) (tgt := 24) C dX6_presses_19 (by decide) (fun c8 => ?_) (fun c8 => ?_)
    · replace hf := ra_f hf c8
      refine rg_aload_n (pc := 24) C 0 rfl rfl dX6_presses_24 ?_
      refine rg_get (pc := 25) C 134 6 12 kd_134 (by decide) rfl inlX6 (by decide) wd_608 rfl dX6_presses_25 ?_
      refine rg_bipush (pc := 28) (v := 13) C dX6_presses_28 (by decide) ?_
      refine rg_iload_n (pc := 30) C 1 rfl rfl dX6_presses_30 ?_
      refine rg_iadd (pc := 31) C dX6_presses_31 ?_
      obtain ⟨g9, hf⟩ := ra_gd hf
      refine rg_iald (pc := 32) (j := (ra_ix (13 + v1))) C 139 kd_139 rfl g9 dX6_presses_32 ?_
      refine rg_if_eq (pc := 33) (tgt := 39) C dX6_presses_33 (by decide) (fun c10 => ?_) (fun c10 => ?_)
      · replace hf := ra_t hf c10
        refine rg_aload_n (pc := 39) C 0 rfl rfl dX6_presses_39 ?_
        obtain ⟨r11, w12, e13, hf⟩ := ra_bd hf
        refine rg_callVV (pc := 40) (As := []) (st := []) C (kX6_notes (zl Z) (zG Z) C.hj k _ _ _ e13) kd_134 (by decide) rfl ysX6_notes rfl wd_723 ⟨Nat.le_of_ble_eq_true rfl, Nat.le_of_ble_eq_true rfl⟩ rfl (Nat.le_of_ble_eq_true rfl) dX6_presses_40 ?_
        refine rg_aload_n (pc := 43) C 0 rfl rfl dX6_presses_43 ?_
        refine rg_get (pc := 44) C 134 6 12 kd_134 (by decide) rfl inlX6 (by decide) wd_608 rfl dX6_presses_44 ?_
        refine rg_bipush (pc := 47) (v := 13) C dX6_presses_47 (by decide) ?_
        refine rg_iload_n (pc := 49) C 1 rfl rfl dX6_presses_49 ?_
        refine rg_iadd (pc := 50) C dX6_presses_50 ?_
        refine rg_iconst (pc := 51) (v := 1) C dX6_presses_51 (by decide) ?_
        refine rg_iast (pc := 52) (j := (ra_ix (13 + v1))) C 139 kd_139 rfl g9 dX6_presses_52 ?_
        refine rg_aload_n (pc := 53) C 0 rfl rfl dX6_presses_53 ?_
        refine rg_get (pc := 54) C 134 6 12 kd_134 (by decide) rfl inlX6 (by decide) wd_608 rfl dX6_presses_54 ?_
        refine rg_bipush (pc := 57) (v := 27) C dX6_presses_57 (by decide) ?_
        refine rg_iload_n (pc := 59) C 1 rfl rfl dX6_presses_59 ?_
        refine rg_iadd (pc := 60) C dX6_presses_60 ?_
        refine rg_iload_n (pc := 61) C 2 rfl rfl dX6_presses_61 ?_
        obtain ⟨g14, hf⟩ := ra_gd hf
        refine rg_iast (pc := 62) (j := (ra_ix (27 + v1))) C 139 kd_139 rfl g14 dX6_presses_62 ?_
        refine rg_aload_n (pc := 63) C 0 rfl rfl dX6_presses_63 ?_
        refine rg_get (pc := 64) C 134 6 12 kd_134 (by decide) rfl inlX6 (by decide) wd_608 rfl dX6_presses_64 ?_
        refine rg_bipush (pc := 67) (v := 6) C dX6_presses_67 (by decide) ?_
        refine rg_iload_n (pc := 69) C 1 rfl rfl dX6_presses_69 ?_
        refine rg_iadd (pc := 70) C dX6_presses_70 ?_
        obtain ⟨g15, hf⟩ := ra_gd hf
        refine rg_iald (pc := 71) (j := (ra_ix (6 + v1))) C 139 kd_139 rfl g15 dX6_presses_71 ?_
        exact rg_iret (pc := 72) C hQ hr hf dX6_presses_72
      · replace hf := ra_f hf c10
        refine rg_bipush (pc := 36) (v := (-2)) C dX6_presses_36 (by decide) ?_
        exact rg_iret (pc := 38) C hQ hr hf dX6_presses_38
    · replace hf := ra_t hf c8
      refine rg_iconst (pc := 22) (v := (-1)) C dX6_presses_22 (by decide) ?_
      exact rg_iret (pc := 23) C hQ hr hf dX6_presses_23
theorem tX6_presses {Z : ra_Z} {r : Int32} {w1 : ra_W} (C : ra_C Z cX6_presses 3 RX6 2 43) (hQ : ra_QI Z r w1) (hr : (zmt Z).sig.returnType = (some .int)) (k : Nat) : ∀ n : Nat, pX6_presses_0 Z r w1 k n := by
  intro n
  induction n with
  | zero => exact (fun _ _ _ h => by cases h)
  | succ n ih => exact tX6_presses_0 C hQ hr k n
theorem kX6_presses (l : Launch) (G : ra_G) (hj : ra_inj G) (k : Nat) (v1 : Int32) (v2 : Int32) (w : ra_W) (r : Int32) (w1 : ra_W) (h : FX6_presses k v1 v2 w = some (r, w1)) : ra_MI l G yX6_presses cX6_presses 3 (some .int) 2 43 [.ref (G.1 134), .int v1, .int v2] w r w1 :=
  ra_entryI (own := RX6) (by decide) rfl (Nat.le_of_ble_eq_true rfl) hj (fun Z hl hG C hQ hr => by subst hl; subst hG; exact (tX6_presses C hQ hr k k) _ _ _ h)
theorem ysX6_presses : ra_YV yX6_presses cX6_presses 3 (some .int) 2 RX6 := ⟨⟨wd_7, wd_799, by decide, by decide, by decide⟩, wd_797, wd_798⟩
/-- TrunkRadioModel.releases -/
def fX6_releases (k : Nat) : Nat → Nat → Int32 → ra_W → Option (Int32 × ra_W)
  | 0, _, _, _ => none
  | n + 1, L, v1, w => match L with
    | _ => ra_bind (FX6_isRadio k v1 (ra_st w 134 0 0)) (fun r1 w2 => if r1 = 0 then (some ((-1), w2)) else (if ra_in (13 + v1) 41 then if (w2 139 (ra_ix (13 + v1))) = 0 then (some ((-2), w2)) else (ra_bind (FX6_notes k w2) (fun _ w8 => ra_bind (FX6_rests k 139 v1 w8) (fun _ w11 => some ((w2 139 (ra_ix (13 + v1))), w11)))) else none))
theorem fX6_releases_0 (k : Nat) (n : Nat) (v1 : Int32) (w : ra_W) : fX6_releases k (n + 1) 0 v1 w = (ra_bind (FX6_isRadio k v1 (ra_st w 134 0 0)) (fun r1 w2 => if r1 = 0 then (some ((-1), w2)) else (if ra_in (13 + v1) 41 then if (w2 139 (ra_ix (13 + v1))) = 0 then (some ((-2), w2)) else (ra_bind (FX6_notes k w2) (fun _ w8 => ra_bind (FX6_rests k 139 v1 w8) (fun _ w11 => some ((w2 139 (ra_ix (13 + v1))), w11)))) else none))) := rfl
def FX6_releases (k : Nat) (v1 : Int32) (w : ra_W) : Option (Int32 × ra_W) := fX6_releases k k 0 v1 w
def pX6_releases_0 (Z : ra_Z) (r : Int32) (w1 : ra_W) (k : Nat) (n : Nat) : Prop := ∀ (v1 : Int32) (w : ra_W), fX6_releases k n 0 v1 w = some (r, w1) → ra_J Z 3 0 [(0, .ref ((zG Z).1 134)), (1, .int v1)] [] w
set_option maxHeartbeats 4000000 in
theorem tX6_releases_0 {Z : ra_Z} {r : Int32} {w1 : ra_W} (C : ra_C Z cX6_releases 3 RX6 2 43) (hQ : ra_QI Z r w1) (hr : (zmt Z).sig.returnType = (some .int)) (k : Nat) (n : Nat) : pX6_releases_0 Z r w1 k (n + 1) := by
  intro v1 w hf
  rw [fX6_releases_0] at hf
  refine rg_aload_n (pc := 0) C 0 rfl rfl dX6_releases_0 ?_
  refine rg_iconst (pc := 1) (v := 0) C dX6_releases_1 (by decide) ?_
  refine rg_put (pc := 2) C 134 6 0 kd_134 (by decide) rfl inlX6 tyX6 tyX6_ok nmX6 (by decide) wd_596 rfl rfl rfl (Nat.le_of_ble_eq_true rfl) rfl dX6_releases_2 ?_
  refine rg_aload_n (pc := 5) C 0 rfl rfl dX6_releases_5 ?_
  refine rg_iload_n (pc := 6) C 1 rfl rfl dX6_releases_6 ?_
  obtain ⟨r1, w2, e3, hf⟩ := ra_bd hf
  refine rg_callVI (pc := 7) (As := [.int v1]) (st := []) C (kX6_isRadio (zl Z) (zG Z) C.hj k _ _ _ _ e3) kd_134 (by decide) rfl ysX6_isRadio rfl wd_800 ⟨Nat.le_of_ble_eq_true rfl, Nat.le_of_ble_eq_true rfl⟩ rfl (Nat.le_of_ble_eq_true rfl) dX6_releases_7 ?_
  refine rg_if_ne (pc := 10) (tgt := 15) C dX6_releases_10 (by decide) (fun c4 => ?_) (fun c4 => ?_)
  · replace hf := ra_f hf c4
    refine rg_aload_n (pc := 15) C 0 rfl rfl dX6_releases_15 ?_
    refine rg_get (pc := 16) C 134 6 12 kd_134 (by decide) rfl inlX6 (by decide) wd_608 rfl dX6_releases_16 ?_
    refine rg_bipush (pc := 19) (v := 13) C dX6_releases_19 (by decide) ?_
    refine rg_iload_n (pc := 21) C 1 rfl rfl dX6_releases_21 ?_
    refine rg_iadd (pc := 22) C dX6_releases_22 ?_
    obtain ⟨g5, hf⟩ := ra_gd hf
    refine rg_iald (pc := 23) (j := (ra_ix (13 + v1))) C 139 kd_139 rfl g5 dX6_releases_23 ?_
    refine rg_istore_n (pc := 24) (lv' := [(0, .ref ((zG Z).1 134)), (1, .int v1), (2, .int (w2 139 (ra_ix (13 + v1))))]) C [1, 2, 0] rfl rfl (by decide) dX6_releases_24 ?_
    refine rg_iload_n (pc := 25) C 2 rfl rfl dX6_releases_25 ?_
    refine rg_if_ne (pc := 26) (tgt := 32) C dX6_releases_26 (by decide) (fun c6 => ?_) (fun c6 => ?_)
    · replace hf := ra_f hf c6
      refine rg_aload_n (pc := 32) C 0 rfl rfl dX6_releases_32 ?_
      obtain ⟨r7, w8, e9, hf⟩ := ra_bd hf
      refine rg_callVV (pc := 33) (As := []) (st := []) C (kX6_notes (zl Z) (zG Z) C.hj k _ _ _ e9) kd_134 (by decide) rfl ysX6_notes rfl wd_723 ⟨Nat.le_of_ble_eq_true rfl, Nat.le_of_ble_eq_true rfl⟩ rfl (Nat.le_of_ble_eq_true rfl) dX6_releases_33 ?_
      refine rg_aload_n (pc := 36) C 0 rfl rfl dX6_releases_36 ?_
      refine rg_get (pc := 37) C 134 6 12 kd_134 (by decide) rfl inlX6 (by decide) wd_608 rfl dX6_releases_37 ?_
      refine rg_iload_n (pc := 40) C 1 rfl rfl dX6_releases_40 ?_
      obtain ⟨r10, w11, e12, hf⟩ := ra_bd hf
      refine rg_callSV (pc := 41) (As := [.ref ((zG Z).1 139), .int v1]) (st := []) C (kX6_rests (zl Z) (zG Z) C.hj k 139 kd_139 _ _ _ _ e12) ysX6_rests rfl wd_750 ⟨Nat.le_of_ble_eq_true rfl, Nat.le_of_ble_eq_true rfl⟩ rfl (Nat.le_of_ble_eq_true rfl) dX6_releases_41 ?_
      refine rg_iload_n (pc := 44) C 2 rfl rfl dX6_releases_44 ?_
      exact rg_iret (pc := 45) C hQ hr hf dX6_releases_45
    · replace hf := ra_t hf c6
      refine rg_bipush (pc := 29) (v := (-2)) C dX6_releases_29 (by decide) ?_
      exact rg_iret (pc := 31) C hQ hr hf dX6_releases_31
  · replace hf := ra_t hf c4
    refine rg_iconst (pc := 13) (v := (-1)) C dX6_releases_13 (by decide) ?_
    exact rg_iret (pc := 14) C hQ hr hf dX6_releases_14
theorem tX6_releases {Z : ra_Z} {r : Int32} {w1 : ra_W} (C : ra_C Z cX6_releases 3 RX6 2 43) (hQ : ra_QI Z r w1) (hr : (zmt Z).sig.returnType = (some .int)) (k : Nat) : ∀ n : Nat, pX6_releases_0 Z r w1 k n := by
  intro n
  induction n with
  | zero => exact (fun _ _ h => by cases h)
  | succ n ih => exact tX6_releases_0 C hQ hr k n
theorem kX6_releases (l : Launch) (G : ra_G) (hj : ra_inj G) (k : Nat) (v1 : Int32) (w : ra_W) (r : Int32) (w1 : ra_W) (h : FX6_releases k v1 w = some (r, w1)) : ra_MI l G yX6_releases cX6_releases 3 (some .int) 2 43 [.ref (G.1 134), .int v1] w r w1 :=
  ra_entryI (own := RX6) (by decide) rfl (Nat.le_of_ble_eq_true rfl) hj (fun Z hl hG C hQ hr => by subst hl; subst hG; exact (tX6_releases C hQ hr k k) _ _ h)
theorem ysX6_releases : ra_YV yX6_releases cX6_releases 3 (some .int) 1 RX6 := ⟨⟨wd_7, wd_807, by decide, by decide, by decide⟩, wd_805, wd_806⟩
/-- TrunkRadioModel.controls -/
def fX6_controls (k : Nat) : Nat → Nat → Int32 → Int32 → Int32 → Int32 → Int32 → ra_W → Option (Int32 × ra_W)
  | 0, _, _, _, _, _, _, _ => none
  | n + 1, L, v1, v2, v3, s0, s1, w => match L with
    | 0 => ra_bind (FX6_in k v1 0 1 (ra_st w 134 0 0)) (fun r1 w2 => if r1 = 0 then (some ((-1), w2)) else (ra_bind (FX6_in k v2 0 1 w2) (fun r5 w6 => if r5 = 0 then (some ((-1), w6)) else (if ra_in (0 + v1) 41 then if 0 ≤ (w6 139 (ra_ix (0 + v1))) then (fX6_controls k n 1 v1 v2 (w6 139 (ra_ix (0 + v1))) 0 0 w6) else (fX6_controls k n 1 v1 v2 (w6 139 (ra_ix (0 + v1))) 1 0 w6) else none))))
    | 1 => if v2 = 1 then (fX6_controls k n 2 v1 v2 v3 1 s0 w) else (fX6_controls k n 2 v1 v2 v3 0 s0 w)
    | 2 => if s1 = s0 then (some ((-2), w)) else (ra_bind (FX6_notes k w) (fun _ w3 => if v2 = 1 then (fX6_controls k n 3 0 0 v3 (-1) (0 + v1) w3) else (fX6_controls k n 3 0 0 v3 0 (0 + v1) w3)))
    | _ => if ra_in s1 41 then if 0 ≤ v3 then (some (v3, (ra_st w 139 (ra_ix s1) s0))) else (some (0, (ra_st w 139 (ra_ix s1) s0))) else none
theorem fX6_controls_0 (k : Nat) (n : Nat) (v1 : Int32) (v2 : Int32) (v3 : Int32) (s0 : Int32) (s1 : Int32) (w : ra_W) : fX6_controls k (n + 1) 0 v1 v2 v3 s0 s1 w = (ra_bind (FX6_in k v1 0 1 (ra_st w 134 0 0)) (fun r1 w2 => if r1 = 0 then (some ((-1), w2)) else (ra_bind (FX6_in k v2 0 1 w2) (fun r5 w6 => if r5 = 0 then (some ((-1), w6)) else (if ra_in (0 + v1) 41 then if 0 ≤ (w6 139 (ra_ix (0 + v1))) then (fX6_controls k n 1 v1 v2 (w6 139 (ra_ix (0 + v1))) 0 0 w6) else (fX6_controls k n 1 v1 v2 (w6 139 (ra_ix (0 + v1))) 1 0 w6) else none))))) := rfl
theorem fX6_controls_1 (k : Nat) (n : Nat) (v1 : Int32) (v2 : Int32) (v3 : Int32) (s0 : Int32) (s1 : Int32) (w : ra_W) : fX6_controls k (n + 1) 1 v1 v2 v3 s0 s1 w = (if v2 = 1 then (fX6_controls k n 2 v1 v2 v3 1 s0 w) else (fX6_controls k n 2 v1 v2 v3 0 s0 w)) := rfl
theorem fX6_controls_2 (k : Nat) (n : Nat) (v1 : Int32) (v2 : Int32) (v3 : Int32) (s0 : Int32) (s1 : Int32) (w : ra_W) : fX6_controls k (n + 1) 2 v1 v2 v3 s0 s1 w = (if s1 = s0 then (some ((-2), w)) else (ra_bind (FX6_notes k w) (fun _ w3 => if v2 = 1 then (fX6_controls k n 3 0 0 v3 (-1) (0 + v1) w3) else (fX6_controls k n 3 0 0 v3 0 (0 + v1) w3)))) := rfl
theorem fX6_controls_3 (k : Nat) (n : Nat) (v1 : Int32) (v2 : Int32) (v3 : Int32) (s0 : Int32) (s1 : Int32) (w : ra_W) : fX6_controls k (n + 1) 3 v1 v2 v3 s0 s1 w = (if ra_in s1 41 then if 0 ≤ v3 then (some (v3, (ra_st w 139 (ra_ix s1) s0))) else (some (0, (ra_st w 139 (ra_ix s1) s0))) else none) := rfl
def FX6_controls (k : Nat) (v1 : Int32) (v2 : Int32) (w : ra_W) : Option (Int32 × ra_W) := fX6_controls k k 0 v1 v2 0 0 0 w
def pX6_controls_0 (Z : ra_Z) (r : Int32) (w1 : ra_W) (k : Nat) (n : Nat) : Prop := ∀ (v1 : Int32) (v2 : Int32) (v3 : Int32) (s0 : Int32) (s1 : Int32) (w : ra_W), fX6_controls k n 0 v1 v2 v3 s0 s1 w = some (r, w1) → ra_J Z 4 0 [(0, .ref ((zG Z).1 134)), (1, .int v1), (2, .int v2)] [] w
def pX6_controls_1 (Z : ra_Z) (r : Int32) (w1 : ra_W) (k : Nat) (n : Nat) : Prop := ∀ (v1 : Int32) (v2 : Int32) (v3 : Int32) (s0 : Int32) (s1 : Int32) (w : ra_W), fX6_controls k n 1 v1 v2 v3 s0 s1 w = some (r, w1) → ra_J Z 4 43 [(0, .ref ((zG Z).1 134)), (1, .int v1), (2, .int v2), (3, .int v3)] [.int s0] w
def pX6_controls_2 (Z : ra_Z) (r : Int32) (w1 : ra_W) (k : Nat) (n : Nat) : Prop := ∀ (v1 : Int32) (v2 : Int32) (v3 : Int32) (s0 : Int32) (s1 : Int32) (w : ra_W), fX6_controls k n 2 v1 v2 v3 s0 s1 w = some (r, w1) → ra_J Z 4 53 [(0, .ref ((zG Z).1 134)), (1, .int v1), (2, .int v2), (3, .int v3)] [.int s0, .int s1] w
def pX6_controls_3 (Z : ra_Z) (r : Int32) (w1 : ra_W) (k : Nat) (n : Nat) : Prop := ∀ (v1 : Int32) (v2 : Int32) (v3 : Int32) (s0 : Int32) (s1 : Int32) (w : ra_W), fX6_controls k n 3 v1 v2 v3 s0 s1 w = some (r, w1) → ra_J Z 4 80 [(0, .ref ((zG Z).1 134)), (3, .int v3)] [.int s0, .int s1, .ref ((zG Z).1 139)] w
set_option maxHeartbeats 4000000 in
theorem tX6_controls_0 {Z : ra_Z} {r : Int32} {w1 : ra_W} (C : ra_C Z cX6_controls 4 RX6 1 22) (hQ : ra_QI Z r w1) (hr : (zmt Z).sig.returnType = (some .int)) (k : Nat) (n : Nat) (ih1 : pX6_controls_1 Z r w1 k n) : pX6_controls_0 Z r w1 k (n + 1) := by
  intro v1 v2 v3 s0 s1 w hf
  rw [fX6_controls_0] at hf
  refine rg_aload_n (pc := 0) C 0 rfl rfl dX6_controls_0 ?_
  refine rg_iconst (pc := 1) (v := 0) C dX6_controls_1 (by decide) ?_
  refine rg_put (pc := 2) C 134 6 0 kd_134 (by decide) rfl inlX6 tyX6 tyX6_ok nmX6 (by decide) wd_596 rfl rfl rfl (Nat.le_of_ble_eq_true rfl) rfl dX6_controls_2 ?_
  refine rg_iload_n (pc := 5) C 1 rfl rfl dX6_controls_5 ?_
  refine rg_iconst (pc := 6) (v := 0) C dX6_controls_6 (by decide) ?_
  refine rg_iconst (pc := 7) (v := 1) C dX6_controls_7 (by decide) ?_
  obtain ⟨r1, w2, e3, hf⟩ := ra_bd hf
  refine rg_callSI (pc := 8) (As := [.int v1, .int 0, .int 1]) (st := []) C (kX6_in (zl Z) (zG Z) C.hj k _ _ _ _ _ _ e3) ysX6_in rfl wd_677 ⟨Nat.le_of_ble_eq_true rfl, Nat.le_of_ble_eq_true rfl⟩ rfl (Nat.le_of_ble_eq_true rfl) dX6_controls_8 ?_
  refine rg_if_eq (pc := 11) (tgt := 23) C dX6_controls_11 (by decide) (fun c4 => ?_) (fun c4 => ?_)
  · replace hf := ra_t hf c4
    refine rg_iconst (pc := 23) (v := (-1)) C dX6_controls_23 (by decide) ?_
    exact rg_iret (pc := 24) C hQ hr hf dX6_controls_24
  · replace hf := ra_f hf c4
    refine rg_iload_n (pc := 14) C 2 rfl rfl dX6_controls_14 ?_
    refine rg_iconst (pc := 15) (v := 0) C dX6_controls_15 (by decide) ?_
    refine rg_iconst (pc := 16) (v := 1) C dX6_controls_16 (by decide) ?_
    obtain ⟨r5, w6, e7, hf⟩ := ra_bd hf
    refine rg_callSI (pc := 17) (As := [.int v2, .int 0, .int 1]) (st := []) C (kX6_in (zl Z) (zG Z) C.hj k _ _ _ _ _ _ e7) ysX6_in rfl wd_677 ⟨Nat.le_of_ble_eq_true rfl, Nat.le_of_ble_eq_true rfl⟩ rfl (Nat.le_of_ble_eq_true rfl) dX6_controls_17 ?_
    refine rg_if_ne (pc := 20) (tgt := 25) C dX6_controls_20 (by decide) (fun c8 => ?_) (fun c8 => ?_)
    · replace hf := ra_f hf c8
      refine rg_aload_n (pc := 25) C 0 rfl rfl dX6_controls_25 ?_
      refine rg_get (pc := 26) C 134 6 12 kd_134 (by decide) rfl inlX6 (by decide) wd_608 rfl dX6_controls_26 ?_
      refine rg_iconst (pc := 29) (v := 0) C dX6_controls_29 (by decide) ?_
      refine rg_iload_n (pc := 30) C 1 rfl rfl dX6_controls_30 ?_
      refine rg_iadd (pc := 31) C dX6_controls_31 ?_
      obtain ⟨g9, hf⟩ := ra_gd hf
      refine rg_iald (pc := 32) (j := (ra_ix (0 + v1))) C 139 kd_139 rfl g9 dX6_controls_32 ?_
      refine rg_istore_n (pc := 33) (lv' := [(0, .ref ((zG Z).1 134)), (1, .int v1), (2, .int v2), (3, .int (w6 139 (ra_ix (0 + v1))))]) C [1, 2, 3, 0] rfl rfl (by decide) dX6_controls_33 ?_
      refine rg_iload_n (pc := 34) C 3 rfl rfl dX6_controls_34 ?_
      refine rg_if_ge (pc := 35) (tgt := 42) C dX6_controls_35 (by decide) (fun c10 => ?_) (fun c10 => ?_)
      · replace hf := ra_t hf c10
        refine rg_iconst (pc := 42) (v := 0) C dX6_controls_42 (by decide) ?_
        exact ih1 _ _ _ _ _ _ hf
      · replace hf := ra_f hf c10
        refine rg_iconst (pc := 38) (v := 1) C dX6_controls_38 (by decide) ?_
        refine rg_goto (pc := 39) (tgt := 43) C dX6_controls_39 (by decide) ?_
        exact ih1 _ _ _ _ _ _ hf
    · replace hf := ra_t hf c8
      refine rg_iconst (pc := 23) (v := (-1)) C dX6_controls_23 (by decide) ?_
      exact rg_iret (pc := 24) C hQ hr hf dX6_controls_24
set_option maxHeartbeats 4000000 in
theorem tX6_controls_1 {Z : ra_Z} {r : Int32} {w1 : ra_W} (C : ra_C Z cX6_controls 4 RX6 1 22) (hQ : ra_QI Z r w1) (hr : (zmt Z).sig.returnType = (some .int)) (k : Nat) (n : Nat) (ih2 : pX6_controls_2 Z r w1 k n) : pX6_controls_1 Z r w1 k (n + 1) := by
  intro v1 v2 v3 s0 s1 w hf
  rw [fX6_controls_1] at hf
  refine rg_iload_n (pc := 43) C 2 rfl rfl dX6_controls_43 ?_
  refine rg_iconst (pc := 44) (v := 1) C dX6_controls_44 (by decide) ?_
  refine rg_icmp_ne (pc := 45) (tgt := 52) C dX6_controls_45 (by decide) (fun c1 => ?_) (fun c1 => ?_)
  · replace hf := ra_f hf c1
    refine rg_iconst (pc := 52) (v := 0) C dX6_controls_52 (by decide) ?_
    exact ih2 _ _ _ _ _ _ hf
  · replace hf := ra_t hf c1
    refine rg_iconst (pc := 48) (v := 1) C dX6_controls_48 (by decide) ?_
    refine rg_goto (pc := 49) (tgt := 53) C dX6_controls_49 (by decide) ?_
    exact ih2 _ _ _ _ _ _ hf
set_option maxHeartbeats 4000000 in
theorem tX6_controls_2 {Z : ra_Z} {r : Int32} {w1 : ra_W} (C : ra_C Z cX6_controls 4 RX6 1 22) (hQ : ra_QI Z r w1) (hr : (zmt Z).sig.returnType = (some .int)) (k : Nat) (n : Nat) (ih3 : pX6_controls_3 Z r w1 k n) : pX6_controls_2 Z r w1 k (n + 1) := by
  intro v1 v2 v3 s0 s1 w hf
  rw [fX6_controls_2] at hf
  refine rg_icmp_ne (pc := 53) (tgt := 59) C dX6_controls_53 (by decide) (fun c1 => ?_) (fun c1 => ?_)
  · replace hf := ra_f hf c1
    refine rg_aload_n (pc := 59) C 0 rfl rfl dX6_controls_59 ?_
    obtain ⟨r2, w3, e4, hf⟩ := ra_bd hf
    refine rg_callVV (pc := 60) (As := []) (st := []) C (kX6_notes (zl Z) (zG Z) C.hj k _ _ _ e4) kd_134 (by decide) rfl ysX6_notes rfl wd_723 ⟨Nat.le_of_ble_eq_true rfl, Nat.le_of_ble_eq_true rfl⟩ rfl (Nat.le_of_ble_eq_true rfl) dX6_controls_60 ?_
    refine rg_aload_n (pc := 63) C 0 rfl rfl dX6_controls_63 ?_
    refine rg_get (pc := 64) C 134 6 12 kd_134 (by decide) rfl inlX6 (by decide) wd_608 rfl dX6_controls_64 ?_
    refine rg_iconst (pc := 67) (v := 0) C dX6_controls_67 (by decide) ?_
    refine rg_iload_n (pc := 68) C 1 rfl rfl dX6_controls_68 ?_
    refine rg_iadd (pc := 69) C dX6_controls_69 ?_
    refine rg_iload_n (pc := 70) C 2 rfl rfl dX6_controls_70 ?_
    refine rg_iconst (pc := 71) (v := 1) C dX6_controls_71 (by decide) ?_
    refine rg_icmp_ne (pc := 72) (tgt := 79) C dX6_controls_72 (by decide) (fun c5 => ?_) (fun c5 => ?_)
    · replace hf := ra_f hf c5
      refine rg_iconst (pc := 79) (v := 0) C dX6_controls_79 (by decide) ?_
      refine rg_sub [0, 3] rfl ?_
      exact ih3 _ _ _ _ _ _ hf
    · replace hf := ra_t hf c5
      refine rg_iconst (pc := 75) (v := (-1)) C dX6_controls_75 (by decide) ?_
      refine rg_goto (pc := 76) (tgt := 80) C dX6_controls_76 (by decide) ?_
      refine rg_sub [0, 3] rfl ?_
      exact ih3 _ _ _ _ _ _ hf
  · replace hf := ra_t hf c1
    refine rg_bipush (pc := 56) (v := (-2)) C dX6_controls_56 (by decide) ?_
    exact rg_iret (pc := 58) C hQ hr hf dX6_controls_58
set_option maxHeartbeats 4000000 in
theorem tX6_controls_3 {Z : ra_Z} {r : Int32} {w1 : ra_W} (C : ra_C Z cX6_controls 4 RX6 1 22) (hQ : ra_QI Z r w1) (hr : (zmt Z).sig.returnType = (some .int)) (k : Nat) (n : Nat) : pX6_controls_3 Z r w1 k (n + 1) := by
  intro v1 v2 v3 s0 s1 w hf
  rw [fX6_controls_3] at hf
  obtain ⟨g1, hf⟩ := ra_gd hf
  refine rg_iast (pc := 80) (j := (ra_ix s1)) C 139 kd_139 rfl g1 dX6_controls_80 ?_
  refine rg_iload_n (pc := 81) C 1 rfl rfl dX6_controls_81 ?_
  refine rg_if_ge (pc := 82) (tgt := 89) C dX6_controls_82 (by decide) (fun c2 => ?_) (fun c2 => ?_)
  · replace hf := ra_t hf c2
    refine rg_iload_n (pc := 89) C 1 rfl rfl dX6_controls_89 ?_
    exact rg_iret (pc := 90) C hQ hr hf dX6_controls_90
  · replace hf := ra_f hf c2
    refine rg_iconst (pc := 85) (v := 0) C dX6_controls_85 (by decide) ?_
    refine rg_goto (pc := 86) (tgt := 90) C dX6_controls_86 (by decide) ?_
    exact rg_iret (pc := 90) C hQ hr hf dX6_controls_90
theorem tX6_controls {Z : ra_Z} {r : Int32} {w1 : ra_W} (C : ra_C Z cX6_controls 4 RX6 1 22) (hQ : ra_QI Z r w1) (hr : (zmt Z).sig.returnType = (some .int)) (k : Nat) : ∀ n : Nat, pX6_controls_0 Z r w1 k n ∧ pX6_controls_1 Z r w1 k n ∧ pX6_controls_2 Z r w1 k n ∧ pX6_controls_3 Z r w1 k n := by
  intro n
  induction n with
  | zero => exact ⟨(fun _ _ _ _ _ _ h => by cases h), (fun _ _ _ _ _ _ h => by cases h), (fun _ _ _ _ _ _ h => by cases h), (fun _ _ _ _ _ _ h => by cases h)⟩
  | succ n ih =>
    obtain ⟨ih0, ih1, ih2, ih3⟩ := ih
    exact ⟨tX6_controls_0 C hQ hr k n ih1, tX6_controls_1 C hQ hr k n ih2, tX6_controls_2 C hQ hr k n ih3, tX6_controls_3 C hQ hr k n⟩
theorem kX6_controls (l : Launch) (G : ra_G) (hj : ra_inj G) (k : Nat) (v1 : Int32) (v2 : Int32) (w : ra_W) (r : Int32) (w1 : ra_W) (h : FX6_controls k v1 v2 w = some (r, w1)) : ra_MI l G yX6_controls cX6_controls 4 (some .int) 1 22 [.ref (G.1 134), .int v1, .int v2] w r w1 :=
  ra_entryI (own := RX6) (by decide) rfl (Nat.le_of_ble_eq_true rfl) hj (fun Z hl hG C hQ hr => by subst hl; subst hG; exact (tX6_controls C hQ hr k k).1 _ _ _ _ _ _ h)
theorem ysX6_controls : ra_YV yX6_controls cX6_controls 4 (some .int) 2 RX6 := ⟨⟨wd_7, wd_811, by decide, by decide, by decide⟩, wd_809, wd_810⟩
/-- TrunkRadioModel.moves -/
def fX6_moves (k : Nat) : Nat → Nat → Int32 → ra_W → Option (Int32 × ra_W)
  | 0, _, _, _ => none
  | n + 1, L, v1, w => match L with
    | _ => ra_bind (FX6_isRadio k v1 (ra_st w 134 0 0)) (fun r1 w2 => if r1 = 0 then (some ((-1), w2)) else (if ra_in (13 + v1) 41 then if (w2 139 (ra_ix (13 + v1))) = 0 then (ra_bind (FX6_notes k w2) (fun _ w8 => if ra_in (6 + v1) 41 then some (((ra_st w8 139 (ra_ix (6 + v1)) (1 - (w8 139 (ra_ix (6 + v1))))) 139 (ra_ix (6 + v1))), (ra_st w8 139 (ra_ix (6 + v1)) (1 - (w8 139 (ra_ix (6 + v1)))))) else none)) else (some ((-2), w2)) else none))
theorem fX6_moves_0 (k : Nat) (n : Nat) (v1 : Int32) (w : ra_W) : fX6_moves k (n + 1) 0 v1 w = (ra_bind (FX6_isRadio k v1 (ra_st w 134 0 0)) (fun r1 w2 => if r1 = 0 then (some ((-1), w2)) else (if ra_in (13 + v1) 41 then if (w2 139 (ra_ix (13 + v1))) = 0 then (ra_bind (FX6_notes k w2) (fun _ w8 => if ra_in (6 + v1) 41 then some (((ra_st w8 139 (ra_ix (6 + v1)) (1 - (w8 139 (ra_ix (6 + v1))))) 139 (ra_ix (6 + v1))), (ra_st w8 139 (ra_ix (6 + v1)) (1 - (w8 139 (ra_ix (6 + v1)))))) else none)) else (some ((-2), w2)) else none))) := rfl
def FX6_moves (k : Nat) (v1 : Int32) (w : ra_W) : Option (Int32 × ra_W) := fX6_moves k k 0 v1 w
def pX6_moves_0 (Z : ra_Z) (r : Int32) (w1 : ra_W) (k : Nat) (n : Nat) : Prop := ∀ (v1 : Int32) (w : ra_W), fX6_moves k n 0 v1 w = some (r, w1) → ra_J Z 2 0 [(0, .ref ((zG Z).1 134)), (1, .int v1)] [] w
set_option maxHeartbeats 4000000 in
theorem tX6_moves_0 {Z : ra_Z} {r : Int32} {w1 : ra_W} (C : ra_C Z cX6_moves 2 RX6 2 43) (hQ : ra_QI Z r w1) (hr : (zmt Z).sig.returnType = (some .int)) (k : Nat) (n : Nat) : pX6_moves_0 Z r w1 k (n + 1) := by
  intro v1 w hf
  rw [fX6_moves_0] at hf
  refine rg_aload_n (pc := 0) C 0 rfl rfl dX6_moves_0 ?_
  refine rg_iconst (pc := 1) (v := 0) C dX6_moves_1 (by decide) ?_
  refine rg_put (pc := 2) C 134 6 0 kd_134 (by decide) rfl inlX6 tyX6 tyX6_ok nmX6 (by decide) wd_596 rfl rfl rfl (Nat.le_of_ble_eq_true rfl) rfl dX6_moves_2 ?_
  refine rg_aload_n (pc := 5) C 0 rfl rfl dX6_moves_5 ?_
  refine rg_iload_n (pc := 6) C 1 rfl rfl dX6_moves_6 ?_
  obtain ⟨r1, w2, e3, hf⟩ := ra_bd hf
  refine rg_callVI (pc := 7) (As := [.int v1]) (st := []) C (kX6_isRadio (zl Z) (zG Z) C.hj k _ _ _ _ e3) kd_134 (by decide) rfl ysX6_isRadio rfl wd_800 ⟨Nat.le_of_ble_eq_true rfl, Nat.le_of_ble_eq_true rfl⟩ rfl (Nat.le_of_ble_eq_true rfl) dX6_moves_7 ?_
  refine rg_if_ne (pc := 10) (tgt := 15) C dX6_moves_10 (by decide) (fun c4 => ?_) (fun c4 => ?_)
  · replace hf := ra_f hf c4
    refine rg_aload_n (pc := 15) C 0 rfl rfl dX6_moves_15 ?_
    refine rg_get (pc := 16) C 134 6 12 kd_134 (by decide) rfl inlX6 (by decide) wd_608 rfl dX6_moves_16 ?_
    refine rg_bipush (pc := 19) (v := 13) C dX6_moves_19 (by decide) ?_
    refine rg_iload_n (pc := 21) C 1 rfl rfl dX6_moves_21 ?_
    refine rg_iadd (pc := 22) C dX6_moves_22 ?_
    obtain ⟨g5, hf⟩ := ra_gd hf
    refine rg_iald (pc := 23) (j := (ra_ix (13 + v1))) C 139 kd_139 rfl g5 dX6_moves_23 ?_
    refine rg_if_eq (pc := 24) (tgt := 30) C dX6_moves_24 (by decide) (fun c6 => ?_) (fun c6 => ?_)
    · replace hf := ra_t hf c6
      refine rg_aload_n (pc := 30) C 0 rfl rfl dX6_moves_30 ?_
      obtain ⟨r7, w8, e9, hf⟩ := ra_bd hf
      refine rg_callVV (pc := 31) (As := []) (st := []) C (kX6_notes (zl Z) (zG Z) C.hj k _ _ _ e9) kd_134 (by decide) rfl ysX6_notes rfl wd_723 ⟨Nat.le_of_ble_eq_true rfl, Nat.le_of_ble_eq_true rfl⟩ rfl (Nat.le_of_ble_eq_true rfl) dX6_moves_31 ?_
      refine rg_aload_n (pc := 34) C 0 rfl rfl dX6_moves_34 ?_
      refine rg_get (pc := 35) C 134 6 12 kd_134 (by decide) rfl inlX6 (by decide) wd_608 rfl dX6_moves_35 ?_
      refine rg_bipush (pc := 38) (v := 6) C dX6_moves_38 (by decide) ?_
      refine rg_iload_n (pc := 40) C 1 rfl rfl dX6_moves_40 ?_
      refine rg_iadd (pc := 41) C dX6_moves_41 ?_
      refine rg_iconst (pc := 42) (v := 1) C dX6_moves_42 (by decide) ?_
      refine rg_aload_n (pc := 43) C 0 rfl rfl dX6_moves_43 ?_
      refine rg_get (pc := 44) C 134 6 12 kd_134 (by decide) rfl inlX6 (by decide) wd_608 rfl dX6_moves_44 ?_
      refine rg_bipush (pc := 47) (v := 6) C dX6_moves_47 (by decide) ?_
      refine rg_iload_n (pc := 49) C 1 rfl rfl dX6_moves_49 ?_
      refine rg_iadd (pc := 50) C dX6_moves_50 ?_
      obtain ⟨g10, hf⟩ := ra_gd hf
      refine rg_iald (pc := 51) (j := (ra_ix (6 + v1))) C 139 kd_139 rfl g10 dX6_moves_51 ?_
      refine rg_isub (pc := 52) C dX6_moves_52 ?_
      refine rg_iast (pc := 53) (j := (ra_ix (6 + v1))) C 139 kd_139 rfl g10 dX6_moves_53 ?_
      refine rg_aload_n (pc := 54) C 0 rfl rfl dX6_moves_54 ?_
      refine rg_get (pc := 55) C 134 6 12 kd_134 (by decide) rfl inlX6 (by decide) wd_608 rfl dX6_moves_55 ?_
      refine rg_bipush (pc := 58) (v := 6) C dX6_moves_58 (by decide) ?_
      refine rg_iload_n (pc := 60) C 1 rfl rfl dX6_moves_60 ?_
      refine rg_iadd (pc := 61) C dX6_moves_61 ?_
      refine rg_iald (pc := 62) (j := (ra_ix (6 + v1))) C 139 kd_139 rfl g10 dX6_moves_62 ?_
      exact rg_iret (pc := 63) C hQ hr hf dX6_moves_63
    · replace hf := ra_f hf c6
      refine rg_bipush (pc := 27) (v := (-2)) C dX6_moves_27 (by decide) ?_
      exact rg_iret (pc := 29) C hQ hr hf dX6_moves_29
  · replace hf := ra_t hf c4
    refine rg_iconst (pc := 13) (v := (-1)) C dX6_moves_13 (by decide) ?_
    exact rg_iret (pc := 14) C hQ hr hf dX6_moves_14
theorem tX6_moves {Z : ra_Z} {r : Int32} {w1 : ra_W} (C : ra_C Z cX6_moves 2 RX6 2 43) (hQ : ra_QI Z r w1) (hr : (zmt Z).sig.returnType = (some .int)) (k : Nat) : ∀ n : Nat, pX6_moves_0 Z r w1 k n := by
  intro n
  induction n with
  | zero => exact (fun _ _ h => by cases h)
  | succ n ih => exact tX6_moves_0 C hQ hr k n
theorem kX6_moves (l : Launch) (G : ra_G) (hj : ra_inj G) (k : Nat) (v1 : Int32) (w : ra_W) (r : Int32) (w1 : ra_W) (h : FX6_moves k v1 w = some (r, w1)) : ra_MI l G yX6_moves cX6_moves 2 (some .int) 2 43 [.ref (G.1 134), .int v1] w r w1 :=
  ra_entryI (own := RX6) (by decide) rfl (Nat.le_of_ble_eq_true rfl) hj (fun Z hl hG C hQ hr => by subst hl; subst hG; exact (tX6_moves C hQ hr k k) _ _ h)
theorem ysX6_moves : ra_YV yX6_moves cX6_moves 2 (some .int) 1 RX6 := ⟨⟨wd_7, wd_815, by decide, by decide, by decide⟩, wd_813, wd_814⟩
/-- TrunkRadioModel.undo -/
def fX6_undo (k : Nat) : Nat → Nat → Int32 → ra_W → Option (Int32 × ra_W)
  | 0, _, _, _ => none
  | n + 1, L, v1, w => match L with
    | 0 => if ((ra_st w 134 0 0) 134 15) = 0 then (some ((-2), (ra_st w 134 0 0))) else (fX6_undo k n 1 0 (ra_st (ra_st w 134 0 0) 134 15 (((ra_st w 134 0 0) 134 15) - 1)))
    | _ => if 41 ≤ v1 then (some ((w 134 15), w)) else (if ra_in ((41 * (w 134 15)) + v1) 492 then if ra_in v1 41 then fX6_undo k n 1 (v1 + 1) (ra_st w 139 (ra_ix v1) (w 141 (ra_ix ((41 * (w 134 15)) + v1)))) else none else none)
theorem fX6_undo_0 (k : Nat) (n : Nat) (v1 : Int32) (w : ra_W) : fX6_undo k (n + 1) 0 v1 w = (if ((ra_st w 134 0 0) 134 15) = 0 then (some ((-2), (ra_st w 134 0 0))) else (fX6_undo k n 1 0 (ra_st (ra_st w 134 0 0) 134 15 (((ra_st w 134 0 0) 134 15) - 1)))) := rfl
theorem fX6_undo_1 (k : Nat) (n : Nat) (v1 : Int32) (w : ra_W) : fX6_undo k (n + 1) 1 v1 w = (if 41 ≤ v1 then (some ((w 134 15), w)) else (if ra_in ((41 * (w 134 15)) + v1) 492 then if ra_in v1 41 then fX6_undo k n 1 (v1 + 1) (ra_st w 139 (ra_ix v1) (w 141 (ra_ix ((41 * (w 134 15)) + v1)))) else none else none)) := rfl
def FX6_undo (k : Nat)  (w : ra_W) : Option (Int32 × ra_W) := fX6_undo k k 0 0 w
def pX6_undo_0 (Z : ra_Z) (r : Int32) (w1 : ra_W) (k : Nat) (n : Nat) : Prop := ∀ (v1 : Int32) (w : ra_W), fX6_undo k n 0 v1 w = some (r, w1) → ra_J Z 2 0 [(0, .ref ((zG Z).1 134))] [] w
def pX6_undo_1 (Z : ra_Z) (r : Int32) (w1 : ra_W) (k : Nat) (n : Nat) : Prop := ∀ (v1 : Int32) (w : ra_W), fX6_undo k n 1 v1 w = some (r, w1) → ra_J Z 2 27 [(0, .ref ((zG Z).1 134)), (1, .int v1)] [] w
set_option maxHeartbeats 4000000 in
theorem tX6_undo_0 {Z : ra_Z} {r : Int32} {w1 : ra_W} (C : ra_C Z cX6_undo 2 RX6 0 0) (hQ : ra_QI Z r w1) (hr : (zmt Z).sig.returnType = (some .int)) (k : Nat) (n : Nat) (ih1 : pX6_undo_1 Z r w1 k n) : pX6_undo_0 Z r w1 k (n + 1) := by
  intro v1 w hf
  rw [fX6_undo_0] at hf
  refine rg_aload_n (pc := 0) C 0 rfl rfl dX6_undo_0 ?_
  refine rg_iconst (pc := 1) (v := 0) C dX6_undo_1 (by decide) ?_
  refine rg_put (pc := 2) C 134 6 0 kd_134 (by decide) rfl inlX6 tyX6 tyX6_ok nmX6 (by decide) wd_596 rfl rfl rfl (Nat.le_of_ble_eq_true rfl) rfl dX6_undo_2 ?_
  refine rg_aload_n (pc := 5) C 0 rfl rfl dX6_undo_5 ?_
  refine rg_get (pc := 6) C 134 6 15 kd_134 (by decide) rfl inlX6 (by decide) wd_611 rfl dX6_undo_6 ?_
  refine rg_if_ne (pc := 9) (tgt := 15) C dX6_undo_9 (by decide) (fun c1 => ?_) (fun c1 => ?_)
  · replace hf := ra_f hf c1
    refine rg_aload_n (pc := 15) C 0 rfl rfl dX6_undo_15 ?_
    refine rg_dup (pc := 16) C rfl dX6_undo_16 ?_
    refine rg_get (pc := 17) C 134 6 15 kd_134 (by decide) rfl inlX6 (by decide) wd_611 rfl dX6_undo_17 ?_
    refine rg_iconst (pc := 20) (v := 1) C dX6_undo_20 (by decide) ?_
    refine rg_isub (pc := 21) C dX6_undo_21 ?_
    refine rg_put (pc := 22) C 134 6 15 kd_134 (by decide) rfl inlX6 tyX6 tyX6_ok nmX6 (by decide) wd_611 rfl rfl rfl (Nat.le_of_ble_eq_true rfl) rfl dX6_undo_22 ?_
    refine rg_iconst (pc := 25) (v := 0) C dX6_undo_25 (by decide) ?_
    refine rg_istore_n (pc := 26) (lv' := [(0, .ref ((zG Z).1 134)), (1, .int 0)]) C [1, 0] rfl rfl (by decide) dX6_undo_26 ?_
    exact ih1 _ _ hf
  · replace hf := ra_t hf c1
    refine rg_bipush (pc := 12) (v := (-2)) C dX6_undo_12 (by decide) ?_
    exact rg_iret (pc := 14) C hQ hr hf dX6_undo_14
set_option maxHeartbeats 4000000 in
theorem tX6_undo_1 {Z : ra_Z} {r : Int32} {w1 : ra_W} (C : ra_C Z cX6_undo 2 RX6 0 0) (hQ : ra_QI Z r w1) (hr : (zmt Z).sig.returnType = (some .int)) (k : Nat) (n : Nat) (ih1 : pX6_undo_1 Z r w1 k n) : pX6_undo_1 Z r w1 k (n + 1) := by
  intro v1 w hf
  rw [fX6_undo_1] at hf
  refine rg_iload_n (pc := 27) C 1 rfl rfl dX6_undo_27 ?_
  refine rg_bipush (pc := 28) (v := 41) C dX6_undo_28 (by decide) ?_
  refine rg_icmp_ge (pc := 30) (tgt := 59) C dX6_undo_30 (by decide) (fun c1 => ?_) (fun c1 => ?_)
  · replace hf := ra_t hf c1
    refine rg_aload_n (pc := 59) C 0 rfl rfl dX6_undo_59 ?_
    refine rg_get (pc := 60) C 134 6 15 kd_134 (by decide) rfl inlX6 (by decide) wd_611 rfl dX6_undo_60 ?_
    exact rg_iret (pc := 63) C hQ hr hf dX6_undo_63
  · replace hf := ra_f hf c1
    refine rg_aload_n (pc := 33) C 0 rfl rfl dX6_undo_33 ?_
    refine rg_get (pc := 34) C 134 6 12 kd_134 (by decide) rfl inlX6 (by decide) wd_608 rfl dX6_undo_34 ?_
    refine rg_iload_n (pc := 37) C 1 rfl rfl dX6_undo_37 ?_
    refine rg_aload_n (pc := 38) C 0 rfl rfl dX6_undo_38 ?_
    refine rg_get (pc := 39) C 134 6 14 kd_134 (by decide) rfl inlX6 (by decide) wd_610 rfl dX6_undo_39 ?_
    refine rg_bipush (pc := 42) (v := 41) C dX6_undo_42 (by decide) ?_
    refine rg_aload_n (pc := 44) C 0 rfl rfl dX6_undo_44 ?_
    refine rg_get (pc := 45) C 134 6 15 kd_134 (by decide) rfl inlX6 (by decide) wd_611 rfl dX6_undo_45 ?_
    refine rg_imul (pc := 48) C dX6_undo_48 ?_
    refine rg_iload_n (pc := 49) C 1 rfl rfl dX6_undo_49 ?_
    refine rg_iadd (pc := 50) C dX6_undo_50 ?_
    obtain ⟨g2, hf⟩ := ra_gd hf
    refine rg_iald (pc := 51) (j := (ra_ix ((41 * (w 134 15)) + v1))) C 141 kd_141 rfl g2 dX6_undo_51 ?_
    obtain ⟨g3, hf⟩ := ra_gd hf
    refine rg_iast (pc := 52) (j := (ra_ix v1)) C 139 kd_139 rfl g3 dX6_undo_52 ?_
    refine rg_iinc (pc := 53) (v := (v1 + 1)) (lv' := [(0, .ref ((zG Z).1 134)), (1, .int (v1 + 1))]) C 1 rfl [1, 0] (ra_ii (by decide)) rfl (by decide) dX6_undo_53 ?_
    refine rg_goto (pc := 56) (tgt := 27) C dX6_undo_56 (by decide) ?_
    exact ih1 _ _ hf
theorem tX6_undo {Z : ra_Z} {r : Int32} {w1 : ra_W} (C : ra_C Z cX6_undo 2 RX6 0 0) (hQ : ra_QI Z r w1) (hr : (zmt Z).sig.returnType = (some .int)) (k : Nat) : ∀ n : Nat, pX6_undo_0 Z r w1 k n ∧ pX6_undo_1 Z r w1 k n := by
  intro n
  induction n with
  | zero => exact ⟨(fun _ _ h => by cases h), (fun _ _ h => by cases h)⟩
  | succ n ih =>
    obtain ⟨ih0, ih1⟩ := ih
    exact ⟨tX6_undo_0 C hQ hr k n ih1, tX6_undo_1 C hQ hr k n ih1⟩
theorem kX6_undo (l : Launch) (G : ra_G) (hj : ra_inj G) (k : Nat)  (w : ra_W) (r : Int32) (w1 : ra_W) (h : FX6_undo k  w = some (r, w1)) : ra_MI l G yX6_undo cX6_undo 2 (some .int) 0 0 [.ref (G.1 134)] w r w1 :=
  ra_entryI (own := RX6) (by decide) rfl (Nat.le_of_ble_eq_true rfl) hj (fun Z hl hG C hQ hr => by subst hl; subst hG; exact (tX6_undo C hQ hr k k).1 _ _ h)
theorem ysX6_undo : ra_YV yX6_undo cX6_undo 2 (some .int) 0 RX6 := ⟨⟨wd_7, wd_819, by decide, by decide, by decide⟩, wd_817, wd_818⟩
/-- TrunkRadioModel.radio -/
def fX6_radio (k : Nat) : Nat → Nat → Int32 → Int32 → ra_W → Option (Int32 × ra_W)
  | 0, _, _, _, _ => none
  | n + 1, L, v1, v2, w => match L with
    | _ => ra_bind (FX6_isRadio k v1 (ra_st w 134 0 0)) (fun r1 w2 => if r1 = 0 then (some ((-1), w2)) else (ra_bind (FX6_in k v2 0 6 w2) (fun r5 w6 => if r5 = 0 then (some ((-1), w6)) else (if 3 ≤ v2 then (if v2 = 3 then (if ra_in (13 + v1) 41 then some ((w6 139 (ra_ix (13 + v1))), w6) else none) else (if v2 = 4 then (if ra_in (20 + v1) 41 then some ((w6 139 (ra_ix (20 + v1))), w6) else none) else (if v2 = 5 then (if ra_in (27 + v1) 41 then some ((w6 139 (ra_ix (27 + v1))), w6) else none) else (if ra_in (34 + v1) 41 then some ((w6 139 (ra_ix (34 + v1))), w6) else none)))) else (if v2 = 0 then (if ra_in (6 + v1) 41 then some ((w6 139 (ra_ix (6 + v1))), w6) else none) else (if v2 = 1 then (if ra_in (5 + v1) 19 then some ((w6 136 (ra_ix (5 + v1))), w6) else none) else (if ra_in (12 + v1) 19 then some ((w6 136 (ra_ix (12 + v1))), w6) else none)))))))
theorem fX6_radio_0 (k : Nat) (n : Nat) (v1 : Int32) (v2 : Int32) (w : ra_W) : fX6_radio k (n + 1) 0 v1 v2 w = (ra_bind (FX6_isRadio k v1 (ra_st w 134 0 0)) (fun r1 w2 => if r1 = 0 then (some ((-1), w2)) else (ra_bind (FX6_in k v2 0 6 w2) (fun r5 w6 => if r5 = 0 then (some ((-1), w6)) else (if 3 ≤ v2 then (if v2 = 3 then (if ra_in (13 + v1) 41 then some ((w6 139 (ra_ix (13 + v1))), w6) else none) else (if v2 = 4 then (if ra_in (20 + v1) 41 then some ((w6 139 (ra_ix (20 + v1))), w6) else none) else (if v2 = 5 then (if ra_in (27 + v1) 41 then some ((w6 139 (ra_ix (27 + v1))), w6) else none) else (if ra_in (34 + v1) 41 then some ((w6 139 (ra_ix (34 + v1))), w6) else none)))) else (if v2 = 0 then (if ra_in (6 + v1) 41 then some ((w6 139 (ra_ix (6 + v1))), w6) else none) else (if v2 = 1 then (if ra_in (5 + v1) 19 then some ((w6 136 (ra_ix (5 + v1))), w6) else none) else (if ra_in (12 + v1) 19 then some ((w6 136 (ra_ix (12 + v1))), w6) else none)))))))) := rfl
def FX6_radio (k : Nat) (v1 : Int32) (v2 : Int32) (w : ra_W) : Option (Int32 × ra_W) := fX6_radio k k 0 v1 v2 w
def pX6_radio_0 (Z : ra_Z) (r : Int32) (w1 : ra_W) (k : Nat) (n : Nat) : Prop := ∀ (v1 : Int32) (v2 : Int32) (w : ra_W), fX6_radio k n 0 v1 v2 w = some (r, w1) → ra_J Z 3 0 [(0, .ref ((zG Z).1 134)), (1, .int v1), (2, .int v2)] [] w
set_option maxHeartbeats 4000000 in
theorem tX6_radio_0 {Z : ra_Z} {r : Int32} {w1 : ra_W} (C : ra_C Z cX6_radio 3 RX6 2 43) (hQ : ra_QI Z r w1) (hr : (zmt Z).sig.returnType = (some .int)) (k : Nat) (n : Nat) : pX6_radio_0 Z r w1 k (n + 1) := by
  intro v1 v2 w hf
  rw [fX6_radio_0] at hf
  refine rg_aload_n (pc := 0) C 0 rfl rfl dX6_radio_0 ?_
  refine rg_iconst (pc := 1) (v := 0) C dX6_radio_1 (by decide) ?_
  refine rg_put (pc := 2) C 134 6 0 kd_134 (by decide) rfl inlX6 tyX6 tyX6_ok nmX6 (by decide) wd_596 rfl rfl rfl (Nat.le_of_ble_eq_true rfl) rfl dX6_radio_2 ?_
  refine rg_aload_n (pc := 5) C 0 rfl rfl dX6_radio_5 ?_
  refine rg_iload_n (pc := 6) C 1 rfl rfl dX6_radio_6 ?_
  obtain ⟨r1, w2, e3, hf⟩ := ra_bd hf
  refine rg_callVI (pc := 7) (As := [.int v1]) (st := []) C (kX6_isRadio (zl Z) (zG Z) C.hj k _ _ _ _ e3) kd_134 (by decide) rfl ysX6_isRadio rfl wd_800 ⟨Nat.le_of_ble_eq_true rfl, Nat.le_of_ble_eq_true rfl⟩ rfl (Nat.le_of_ble_eq_true rfl) dX6_radio_7 ?_
  refine rg_if_eq (pc := 10) (tgt := 23) C dX6_radio_10 (by decide) (fun c4 => ?_) (fun c4 => ?_)
  · replace hf := ra_t hf c4
    refine rg_iconst (pc := 23) (v := (-1)) C dX6_radio_23 (by decide) ?_
    exact rg_iret (pc := 24) C hQ hr hf dX6_radio_24
  · replace hf := ra_f hf c4
    refine rg_iload_n (pc := 13) C 2 rfl rfl dX6_radio_13 ?_
    refine rg_iconst (pc := 14) (v := 0) C dX6_radio_14 (by decide) ?_
    refine rg_bipush (pc := 15) (v := 6) C dX6_radio_15 (by decide) ?_
    obtain ⟨r5, w6, e7, hf⟩ := ra_bd hf
    refine rg_callSI (pc := 17) (As := [.int v2, .int 0, .int 6]) (st := []) C (kX6_in (zl Z) (zG Z) C.hj k _ _ _ _ _ _ e7) ysX6_in rfl wd_677 ⟨Nat.le_of_ble_eq_true rfl, Nat.le_of_ble_eq_true rfl⟩ rfl (Nat.le_of_ble_eq_true rfl) dX6_radio_17 ?_
    refine rg_if_ne (pc := 20) (tgt := 25) C dX6_radio_20 (by decide) (fun c8 => ?_) (fun c8 => ?_)
    · replace hf := ra_f hf c8
      refine rg_iload_n (pc := 25) C 2 rfl rfl dX6_radio_25 ?_
      refine rg_iconst (pc := 26) (v := 3) C dX6_radio_26 (by decide) ?_
      refine rg_icmp_ge (pc := 27) (tgt := 72) C dX6_radio_27 (by decide) (fun c9 => ?_) (fun c9 => ?_)
      · replace hf := ra_t hf c9
        refine rg_iload_n (pc := 72) C 2 rfl rfl dX6_radio_72 ?_
        refine rg_iconst (pc := 73) (v := 3) C dX6_radio_73 (by decide) ?_
        refine rg_icmp_ne (pc := 74) (tgt := 89) C dX6_radio_74 (by decide) (fun c10 => ?_) (fun c10 => ?_)
        · replace hf := ra_f hf c10
          refine rg_iload_n (pc := 89) C 2 rfl rfl dX6_radio_89 ?_
          refine rg_iconst (pc := 90) (v := 4) C dX6_radio_90 (by decide) ?_
          refine rg_icmp_ne (pc := 91) (tgt := 106) C dX6_radio_91 (by decide) (fun c11 => ?_) (fun c11 => ?_)
          · replace hf := ra_f hf c11
            refine rg_iload_n (pc := 106) C 2 rfl rfl dX6_radio_106 ?_
            refine rg_iconst (pc := 107) (v := 5) C dX6_radio_107 (by decide) ?_
            refine rg_icmp_ne (pc := 108) (tgt := 123) C dX6_radio_108 (by decide) (fun c12 => ?_) (fun c12 => ?_)
            · replace hf := ra_f hf c12
              refine rg_aload_n (pc := 123) C 0 rfl rfl dX6_radio_123 ?_
              refine rg_get (pc := 124) C 134 6 12 kd_134 (by decide) rfl inlX6 (by decide) wd_608 rfl dX6_radio_124 ?_
              refine rg_bipush (pc := 127) (v := 34) C dX6_radio_127 (by decide) ?_
              refine rg_iload_n (pc := 129) C 1 rfl rfl dX6_radio_129 ?_
              refine rg_iadd (pc := 130) C dX6_radio_130 ?_
              obtain ⟨g13, hf⟩ := ra_gd hf
              refine rg_iald (pc := 131) (j := (ra_ix (34 + v1))) C 139 kd_139 rfl g13 dX6_radio_131 ?_
              exact rg_iret (pc := 132) C hQ hr hf dX6_radio_132
            · replace hf := ra_t hf c12
              refine rg_aload_n (pc := 111) C 0 rfl rfl dX6_radio_111 ?_
              refine rg_get (pc := 112) C 134 6 12 kd_134 (by decide) rfl inlX6 (by decide) wd_608 rfl dX6_radio_112 ?_
              refine rg_bipush (pc := 115) (v := 27) C dX6_radio_115 (by decide) ?_
              refine rg_iload_n (pc := 117) C 1 rfl rfl dX6_radio_117 ?_
              refine rg_iadd (pc := 118) C dX6_radio_118 ?_
              obtain ⟨g14, hf⟩ := ra_gd hf
              refine rg_iald (pc := 119) (j := (ra_ix (27 + v1))) C 139 kd_139 rfl g14 dX6_radio_119 ?_
              refine rg_goto (pc := 120) (tgt := 132) C dX6_radio_120 (by decide) ?_
              exact rg_iret (pc := 132) C hQ hr hf dX6_radio_132
          · replace hf := ra_t hf c11
            refine rg_aload_n (pc := 94) C 0 rfl rfl dX6_radio_94 ?_
            refine rg_get (pc := 95) C 134 6 12 kd_134 (by decide) rfl inlX6 (by decide) wd_608 rfl dX6_radio_95 ?_
            refine rg_bipush (pc := 98) (v := 20) C dX6_radio_98 (by decide) ?_
            refine rg_iload_n (pc := 100) C 1 rfl rfl dX6_radio_100 ?_
            refine rg_iadd (pc := 101) C dX6_radio_101 ?_
            obtain ⟨g15, hf⟩ := ra_gd hf
            refine rg_iald (pc := 102) (j := (ra_ix (20 + v1))) C 139 kd_139 rfl g15 dX6_radio_102 ?_
            refine rg_goto (pc := 103) (tgt := 132) C dX6_radio_103 (by decide) ?_
            exact rg_iret (pc := 132) C hQ hr hf dX6_radio_132
        · replace hf := ra_t hf c10
          refine rg_aload_n (pc := 77) C 0 rfl rfl dX6_radio_77 ?_
          refine rg_get (pc := 78) C 134 6 12 kd_134 (by decide) rfl inlX6 (by decide) wd_608 rfl dX6_radio_78 ?_
          refine rg_bipush (pc := 81) (v := 13) C dX6_radio_81 (by decide) ?_
          refine rg_iload_n (pc := 83) C 1 rfl rfl dX6_radio_83 ?_
          refine rg_iadd (pc := 84) C dX6_radio_84 ?_
          obtain ⟨g16, hf⟩ := ra_gd hf
          refine rg_iald (pc := 85) (j := (ra_ix (13 + v1))) C 139 kd_139 rfl g16 dX6_radio_85 ?_
          refine rg_goto (pc := 86) (tgt := 132) C dX6_radio_86 (by decide) ?_
          exact rg_iret (pc := 132) C hQ hr hf dX6_radio_132
      · replace hf := ra_f hf c9
        refine rg_iload_n (pc := 30) C 2 rfl rfl dX6_radio_30 ?_
        refine rg_if_ne (pc := 31) (tgt := 46) C dX6_radio_31 (by decide) (fun c17 => ?_) (fun c17 => ?_)
        · replace hf := ra_f hf c17
          refine rg_iload_n (pc := 46) C 2 rfl rfl dX6_radio_46 ?_
          refine rg_iconst (pc := 47) (v := 1) C dX6_radio_47 (by decide) ?_
          refine rg_icmp_ne (pc := 48) (tgt := 62) C dX6_radio_48 (by decide) (fun c18 => ?_) (fun c18 => ?_)
          · replace hf := ra_f hf c18
            refine rg_aload_n (pc := 62) C 0 rfl rfl dX6_radio_62 ?_
            refine rg_get (pc := 63) C 134 6 9 kd_134 (by decide) rfl inlX6 (by decide) wd_605 rfl dX6_radio_63 ?_
            refine rg_bipush (pc := 66) (v := 12) C dX6_radio_66 (by decide) ?_
            refine rg_iload_n (pc := 68) C 1 rfl rfl dX6_radio_68 ?_
            refine rg_iadd (pc := 69) C dX6_radio_69 ?_
            obtain ⟨g19, hf⟩ := ra_gd hf
            refine rg_iald (pc := 70) (j := (ra_ix (12 + v1))) C 136 kd_136 rfl g19 dX6_radio_70 ?_
            exact rg_iret (pc := 71) C hQ hr hf dX6_radio_71
          · replace hf := ra_t hf c18
            refine rg_aload_n (pc := 51) C 0 rfl rfl dX6_radio_51 ?_
            refine rg_get (pc := 52) C 134 6 9 kd_134 (by decide) rfl inlX6 (by decide) wd_605 rfl dX6_radio_52 ?_
            refine rg_iconst (pc := 55) (v := 5) C dX6_radio_55 (by decide) ?_
            refine rg_iload_n (pc := 56) C 1 rfl rfl dX6_radio_56 ?_
            refine rg_iadd (pc := 57) C dX6_radio_57 ?_
            obtain ⟨g20, hf⟩ := ra_gd hf
            refine rg_iald (pc := 58) (j := (ra_ix (5 + v1))) C 136 kd_136 rfl g20 dX6_radio_58 ?_
            refine rg_goto (pc := 59) (tgt := 71) C dX6_radio_59 (by decide) ?_
            exact rg_iret (pc := 71) C hQ hr hf dX6_radio_71
        · replace hf := ra_t hf c17
          refine rg_aload_n (pc := 34) C 0 rfl rfl dX6_radio_34 ?_
          refine rg_get (pc := 35) C 134 6 12 kd_134 (by decide) rfl inlX6 (by decide) wd_608 rfl dX6_radio_35 ?_
          refine rg_bipush (pc := 38) (v := 6) C dX6_radio_38 (by decide) ?_
          refine rg_iload_n (pc := 40) C 1 rfl rfl dX6_radio_40 ?_
          refine rg_iadd (pc := 41) C dX6_radio_41 ?_
          obtain ⟨g21, hf⟩ := ra_gd hf
          refine rg_iald (pc := 42) (j := (ra_ix (6 + v1))) C 139 kd_139 rfl g21 dX6_radio_42 ?_
          refine rg_goto (pc := 43) (tgt := 71) C dX6_radio_43 (by decide) ?_
          exact rg_iret (pc := 71) C hQ hr hf dX6_radio_71
    · replace hf := ra_t hf c8
      refine rg_iconst (pc := 23) (v := (-1)) C dX6_radio_23 (by decide) ?_
      exact rg_iret (pc := 24) C hQ hr hf dX6_radio_24
theorem tX6_radio {Z : ra_Z} {r : Int32} {w1 : ra_W} (C : ra_C Z cX6_radio 3 RX6 2 43) (hQ : ra_QI Z r w1) (hr : (zmt Z).sig.returnType = (some .int)) (k : Nat) : ∀ n : Nat, pX6_radio_0 Z r w1 k n := by
  intro n
  induction n with
  | zero => exact (fun _ _ _ h => by cases h)
  | succ n ih => exact tX6_radio_0 C hQ hr k n
theorem kX6_radio (l : Launch) (G : ra_G) (hj : ra_inj G) (k : Nat) (v1 : Int32) (v2 : Int32) (w : ra_W) (r : Int32) (w1 : ra_W) (h : FX6_radio k v1 v2 w = some (r, w1)) : ra_MI l G yX6_radio cX6_radio 3 (some .int) 2 43 [.ref (G.1 134), .int v1, .int v2] w r w1 :=
  ra_entryI (own := RX6) (by decide) rfl (Nat.le_of_ble_eq_true rfl) hj (fun Z hl hG C hQ hr => by subst hl; subst hG; exact (tX6_radio C hQ hr k k) _ _ _ h)
theorem ysX6_radio : ra_YV yX6_radio cX6_radio 3 (some .int) 2 RX6 := ⟨⟨wd_7, wd_823, by decide, by decide, by decide⟩, wd_821, wd_822⟩
/-- TrunkRadioModel.site -/
def fX6_site (k : Nat) : Nat → Nat → Int32 → Int32 → ra_W → Option (Int32 × ra_W)
  | 0, _, _, _, _ => none
  | n + 1, L, v1, v2, w => match L with
    | _ => ra_bind (FX6_in k v1 0 1 (ra_st w 134 0 0)) (fun r1 w2 => if r1 = 0 then (some ((-1), w2)) else (ra_bind (FX6_in k v2 0 3 w2) (fun r5 w6 => if r5 = 0 then (some ((-1), w6)) else (if ra_in (0 + v1) 41 then if v2 = 0 then (if ra_in (3 + v1) 19 then some ((w6 136 (ra_ix (3 + v1))), w6) else none) else (if v2 = 1 then (ra_bind (FX6_freeAt k 139 v1 w6) (fun r15 w16 => some (r15, w16))) else (if v2 = 2 then (if 0 ≤ (w6 139 (ra_ix (0 + v1))) then (some (0, w6)) else (some (1, w6))) else (if 0 ≤ (w6 139 (ra_ix (0 + v1))) then (some ((w6 139 (ra_ix (0 + v1))), w6)) else (some (0, w6))))) else none))))
theorem fX6_site_0 (k : Nat) (n : Nat) (v1 : Int32) (v2 : Int32) (w : ra_W) : fX6_site k (n + 1) 0 v1 v2 w = (ra_bind (FX6_in k v1 0 1 (ra_st w 134 0 0)) (fun r1 w2 => if r1 = 0 then (some ((-1), w2)) else (ra_bind (FX6_in k v2 0 3 w2) (fun r5 w6 => if r5 = 0 then (some ((-1), w6)) else (if ra_in (0 + v1) 41 then if v2 = 0 then (if ra_in (3 + v1) 19 then some ((w6 136 (ra_ix (3 + v1))), w6) else none) else (if v2 = 1 then (ra_bind (FX6_freeAt k 139 v1 w6) (fun r15 w16 => some (r15, w16))) else (if v2 = 2 then (if 0 ≤ (w6 139 (ra_ix (0 + v1))) then (some (0, w6)) else (some (1, w6))) else (if 0 ≤ (w6 139 (ra_ix (0 + v1))) then (some ((w6 139 (ra_ix (0 + v1))), w6)) else (some (0, w6))))) else none))))) := rfl
def FX6_site (k : Nat) (v1 : Int32) (v2 : Int32) (w : ra_W) : Option (Int32 × ra_W) := fX6_site k k 0 v1 v2 w
def pX6_site_0 (Z : ra_Z) (r : Int32) (w1 : ra_W) (k : Nat) (n : Nat) : Prop := ∀ (v1 : Int32) (v2 : Int32) (w : ra_W), fX6_site k n 0 v1 v2 w = some (r, w1) → ra_J Z 4 0 [(0, .ref ((zG Z).1 134)), (1, .int v1), (2, .int v2)] [] w
set_option maxHeartbeats 4000000 in
theorem tX6_site_0 {Z : ra_Z} {r : Int32} {w1 : ra_W} (C : ra_C Z cX6_site 4 RX6 2 45) (hQ : ra_QI Z r w1) (hr : (zmt Z).sig.returnType = (some .int)) (k : Nat) (n : Nat) : pX6_site_0 Z r w1 k (n + 1) := by
  intro v1 v2 w hf
  rw [fX6_site_0] at hf
  refine rg_aload_n (pc := 0) C 0 rfl rfl dX6_site_0 ?_
  refine rg_iconst (pc := 1) (v := 0) C dX6_site_1 (by decide) ?_
  refine rg_put (pc := 2) C 134 6 0 kd_134 (by decide) rfl inlX6 tyX6 tyX6_ok nmX6 (by decide) wd_596 rfl rfl rfl (Nat.le_of_ble_eq_true rfl) rfl dX6_site_2 ?_
  refine rg_iload_n (pc := 5) C 1 rfl rfl dX6_site_5 ?_
  refine rg_iconst (pc := 6) (v := 0) C dX6_site_6 (by decide) ?_
  refine rg_iconst (pc := 7) (v := 1) C dX6_site_7 (by decide) ?_
  obtain ⟨r1, w2, e3, hf⟩ := ra_bd hf
  refine rg_callSI (pc := 8) (As := [.int v1, .int 0, .int 1]) (st := []) C (kX6_in (zl Z) (zG Z) C.hj k _ _ _ _ _ _ e3) ysX6_in rfl wd_677 ⟨Nat.le_of_ble_eq_true rfl, Nat.le_of_ble_eq_true rfl⟩ rfl (Nat.le_of_ble_eq_true rfl) dX6_site_8 ?_
  refine rg_if_eq (pc := 11) (tgt := 23) C dX6_site_11 (by decide) (fun c4 => ?_) (fun c4 => ?_)
  · replace hf := ra_t hf c4
    refine rg_iconst (pc := 23) (v := (-1)) C dX6_site_23 (by decide) ?_
    exact rg_iret (pc := 24) C hQ hr hf dX6_site_24
  · replace hf := ra_f hf c4
    refine rg_iload_n (pc := 14) C 2 rfl rfl dX6_site_14 ?_
    refine rg_iconst (pc := 15) (v := 0) C dX6_site_15 (by decide) ?_
    refine rg_iconst (pc := 16) (v := 3) C dX6_site_16 (by decide) ?_
    obtain ⟨r5, w6, e7, hf⟩ := ra_bd hf
    refine rg_callSI (pc := 17) (As := [.int v2, .int 0, .int 3]) (st := []) C (kX6_in (zl Z) (zG Z) C.hj k _ _ _ _ _ _ e7) ysX6_in rfl wd_677 ⟨Nat.le_of_ble_eq_true rfl, Nat.le_of_ble_eq_true rfl⟩ rfl (Nat.le_of_ble_eq_true rfl) dX6_site_17 ?_
    refine rg_if_ne (pc := 20) (tgt := 25) C dX6_site_20 (by decide) (fun c8 => ?_) (fun c8 => ?_)
    · replace hf := ra_f hf c8
      refine rg_aload_n (pc := 25) C 0 rfl rfl dX6_site_25 ?_
      refine rg_get (pc := 26) C 134 6 12 kd_134 (by decide) rfl inlX6 (by decide) wd_608 rfl dX6_site_26 ?_
      refine rg_iconst (pc := 29) (v := 0) C dX6_site_29 (by decide) ?_
      refine rg_iload_n (pc := 30) C 1 rfl rfl dX6_site_30 ?_
      refine rg_iadd (pc := 31) C dX6_site_31 ?_
      obtain ⟨g9, hf⟩ := ra_gd hf
      refine rg_iald (pc := 32) (j := (ra_ix (0 + v1))) C 139 kd_139 rfl g9 dX6_site_32 ?_
      refine rg_istore_n (pc := 33) (lv' := [(0, .ref ((zG Z).1 134)), (1, .int v1), (2, .int v2), (3, .int (w6 139 (ra_ix (0 + v1))))]) C [1, 2, 3, 0] rfl rfl (by decide) dX6_site_33 ?_
      refine rg_iload_n (pc := 34) C 2 rfl rfl dX6_site_34 ?_
      refine rg_if_ne (pc := 35) (tgt := 49) C dX6_site_35 (by decide) (fun c10 => ?_) (fun c10 => ?_)
      · replace hf := ra_f hf c10
        refine rg_iload_n (pc := 49) C 2 rfl rfl dX6_site_49 ?_
        refine rg_iconst (pc := 50) (v := 1) C dX6_site_50 (by decide) ?_
        refine rg_icmp_ne (pc := 51) (tgt := 66) C dX6_site_51 (by decide) (fun c11 => ?_) (fun c11 => ?_)
        · replace hf := ra_f hf c11
          refine rg_iload_n (pc := 66) C 2 rfl rfl dX6_site_66 ?_
          refine rg_iconst (pc := 67) (v := 2) C dX6_site_67 (by decide) ?_
          refine rg_icmp_ne (pc := 68) (tgt := 83) C dX6_site_68 (by decide) (fun c12 => ?_) (fun c12 => ?_)
          · replace hf := ra_f hf c12
            refine rg_iload_n (pc := 83) C 3 rfl rfl dX6_site_83 ?_
            refine rg_if_ge (pc := 84) (tgt := 91) C dX6_site_84 (by decide) (fun c13 => ?_) (fun c13 => ?_)
            · replace hf := ra_t hf c13
              refine rg_iload_n (pc := 91) C 3 rfl rfl dX6_site_91 ?_
              exact rg_iret (pc := 92) C hQ hr hf dX6_site_92
            · replace hf := ra_f hf c13
              refine rg_iconst (pc := 87) (v := 0) C dX6_site_87 (by decide) ?_
              refine rg_goto (pc := 88) (tgt := 92) C dX6_site_88 (by decide) ?_
              exact rg_iret (pc := 92) C hQ hr hf dX6_site_92
          · replace hf := ra_t hf c12
            refine rg_iload_n (pc := 71) C 3 rfl rfl dX6_site_71 ?_
            refine rg_if_ge (pc := 72) (tgt := 79) C dX6_site_72 (by decide) (fun c14 => ?_) (fun c14 => ?_)
            · replace hf := ra_t hf c14
              refine rg_iconst (pc := 79) (v := 0) C dX6_site_79 (by decide) ?_
              refine rg_goto (pc := 80) (tgt := 92) C dX6_site_80 (by decide) ?_
              exact rg_iret (pc := 92) C hQ hr hf dX6_site_92
            · replace hf := ra_f hf c14
              refine rg_iconst (pc := 75) (v := 1) C dX6_site_75 (by decide) ?_
              refine rg_goto (pc := 76) (tgt := 92) C dX6_site_76 (by decide) ?_
              exact rg_iret (pc := 92) C hQ hr hf dX6_site_92
        · replace hf := ra_t hf c11
          refine rg_aload_n (pc := 54) C 0 rfl rfl dX6_site_54 ?_
          refine rg_aload_n (pc := 55) C 0 rfl rfl dX6_site_55 ?_
          refine rg_get (pc := 56) C 134 6 12 kd_134 (by decide) rfl inlX6 (by decide) wd_608 rfl dX6_site_56 ?_
          refine rg_iload_n (pc := 59) C 1 rfl rfl dX6_site_59 ?_
          obtain ⟨r15, w16, e17, hf⟩ := ra_bd hf
          refine rg_callVI (pc := 60) (As := [.ref ((zG Z).1 139), .int v1]) (st := []) C (kX6_freeAt (zl Z) (zG Z) C.hj k 139 kd_139 _ _ _ _ e17) kd_134 (by decide) rfl ysX6_freeAt rfl wd_780 ⟨Nat.le_of_ble_eq_true rfl, Nat.le_of_ble_eq_true rfl⟩ rfl (Nat.le_of_ble_eq_true rfl) dX6_site_60 ?_
          refine rg_goto (pc := 63) (tgt := 92) C dX6_site_63 (by decide) ?_
          exact rg_iret (pc := 92) C hQ hr hf dX6_site_92
      · replace hf := ra_t hf c10
        refine rg_aload_n (pc := 38) C 0 rfl rfl dX6_site_38 ?_
        refine rg_get (pc := 39) C 134 6 9 kd_134 (by decide) rfl inlX6 (by decide) wd_605 rfl dX6_site_39 ?_
        refine rg_iconst (pc := 42) (v := 3) C dX6_site_42 (by decide) ?_
        refine rg_iload_n (pc := 43) C 1 rfl rfl dX6_site_43 ?_
        refine rg_iadd (pc := 44) C dX6_site_44 ?_
        obtain ⟨g18, hf⟩ := ra_gd hf
        refine rg_iald (pc := 45) (j := (ra_ix (3 + v1))) C 136 kd_136 rfl g18 dX6_site_45 ?_
        refine rg_goto (pc := 46) (tgt := 92) C dX6_site_46 (by decide) ?_
        exact rg_iret (pc := 92) C hQ hr hf dX6_site_92
    · replace hf := ra_t hf c8
      refine rg_iconst (pc := 23) (v := (-1)) C dX6_site_23 (by decide) ?_
      exact rg_iret (pc := 24) C hQ hr hf dX6_site_24
theorem tX6_site {Z : ra_Z} {r : Int32} {w1 : ra_W} (C : ra_C Z cX6_site 4 RX6 2 45) (hQ : ra_QI Z r w1) (hr : (zmt Z).sig.returnType = (some .int)) (k : Nat) : ∀ n : Nat, pX6_site_0 Z r w1 k n := by
  intro n
  induction n with
  | zero => exact (fun _ _ _ h => by cases h)
  | succ n ih => exact tX6_site_0 C hQ hr k n
theorem kX6_site (l : Launch) (G : ra_G) (hj : ra_inj G) (k : Nat) (v1 : Int32) (v2 : Int32) (w : ra_W) (r : Int32) (w1 : ra_W) (h : FX6_site k v1 v2 w = some (r, w1)) : ra_MI l G yX6_site cX6_site 4 (some .int) 2 45 [.ref (G.1 134), .int v1, .int v2] w r w1 :=
  ra_entryI (own := RX6) (by decide) rfl (Nat.le_of_ble_eq_true rfl) hj (fun Z hl hG C hQ hr => by subst hl; subst hG; exact (tX6_site C hQ hr k k) _ _ _ h)
theorem ysX6_site : ra_YV yX6_site cX6_site 4 (some .int) 2 RX6 := ⟨⟨wd_7, wd_827, by decide, by decide, by decide⟩, wd_825, wd_826⟩
/-- TrunkRadioModel.talker -/
def fX6_talker (k : Nat) : Nat → Nat → Int32 → ra_W → Option (Int32 × ra_W)
  | 0, _, _, _ => none
  | n + 1, L, v1, w => match L with
    | _ => ra_bind (FX6_in k v1 0 5 (ra_st w 134 0 0)) (fun r1 w2 => if r1 = 0 then (some ((-1), w2)) else (ra_bind (FX6_talkerOf k 139 v1 w2) (fun r5 w6 => some (r5, w6))))
theorem fX6_talker_0 (k : Nat) (n : Nat) (v1 : Int32) (w : ra_W) : fX6_talker k (n + 1) 0 v1 w = (ra_bind (FX6_in k v1 0 5 (ra_st w 134 0 0)) (fun r1 w2 => if r1 = 0 then (some ((-1), w2)) else (ra_bind (FX6_talkerOf k 139 v1 w2) (fun r5 w6 => some (r5, w6))))) := rfl
def FX6_talker (k : Nat) (v1 : Int32) (w : ra_W) : Option (Int32 × ra_W) := fX6_talker k k 0 v1 w
def pX6_talker_0 (Z : ra_Z) (r : Int32) (w1 : ra_W) (k : Nat) (n : Nat) : Prop := ∀ (v1 : Int32) (w : ra_W), fX6_talker k n 0 v1 w = some (r, w1) → ra_J Z 2 0 [(0, .ref ((zG Z).1 134)), (1, .int v1)] [] w
set_option maxHeartbeats 4000000 in
theorem tX6_talker_0 {Z : ra_Z} {r : Int32} {w1 : ra_W} (C : ra_C Z cX6_talker 2 RX6 1 24) (hQ : ra_QI Z r w1) (hr : (zmt Z).sig.returnType = (some .int)) (k : Nat) (n : Nat) : pX6_talker_0 Z r w1 k (n + 1) := by
  intro v1 w hf
  rw [fX6_talker_0] at hf
  refine rg_aload_n (pc := 0) C 0 rfl rfl dX6_talker_0 ?_
  refine rg_iconst (pc := 1) (v := 0) C dX6_talker_1 (by decide) ?_
  refine rg_put (pc := 2) C 134 6 0 kd_134 (by decide) rfl inlX6 tyX6 tyX6_ok nmX6 (by decide) wd_596 rfl rfl rfl (Nat.le_of_ble_eq_true rfl) rfl dX6_talker_2 ?_
  refine rg_iload_n (pc := 5) C 1 rfl rfl dX6_talker_5 ?_
  refine rg_iconst (pc := 6) (v := 0) C dX6_talker_6 (by decide) ?_
  refine rg_iconst (pc := 7) (v := 5) C dX6_talker_7 (by decide) ?_
  obtain ⟨r1, w2, e3, hf⟩ := ra_bd hf
  refine rg_callSI (pc := 8) (As := [.int v1, .int 0, .int 5]) (st := []) C (kX6_in (zl Z) (zG Z) C.hj k _ _ _ _ _ _ e3) ysX6_in rfl wd_677 ⟨Nat.le_of_ble_eq_true rfl, Nat.le_of_ble_eq_true rfl⟩ rfl (Nat.le_of_ble_eq_true rfl) dX6_talker_8 ?_
  refine rg_if_eq (pc := 11) (tgt := 26) C dX6_talker_11 (by decide) (fun c4 => ?_) (fun c4 => ?_)
  · replace hf := ra_t hf c4
    refine rg_iconst (pc := 26) (v := (-1)) C dX6_talker_26 (by decide) ?_
    exact rg_iret (pc := 27) C hQ hr hf dX6_talker_27
  · replace hf := ra_f hf c4
    refine rg_aload_n (pc := 14) C 0 rfl rfl dX6_talker_14 ?_
    refine rg_aload_n (pc := 15) C 0 rfl rfl dX6_talker_15 ?_
    refine rg_get (pc := 16) C 134 6 12 kd_134 (by decide) rfl inlX6 (by decide) wd_608 rfl dX6_talker_16 ?_
    refine rg_iload_n (pc := 19) C 1 rfl rfl dX6_talker_19 ?_
    obtain ⟨r5, w6, e7, hf⟩ := ra_bd hf
    refine rg_callVI (pc := 20) (As := [.ref ((zG Z).1 139), .int v1]) (st := []) C (kX6_talkerOf (zl Z) (zG Z) C.hj k 139 kd_139 _ _ _ _ e7) kd_134 (by decide) rfl ysX6_talkerOf rfl wd_765 ⟨Nat.le_of_ble_eq_true rfl, Nat.le_of_ble_eq_true rfl⟩ rfl (Nat.le_of_ble_eq_true rfl) dX6_talker_20 ?_
    refine rg_goto (pc := 23) (tgt := 27) C dX6_talker_23 (by decide) ?_
    exact rg_iret (pc := 27) C hQ hr hf dX6_talker_27
theorem tX6_talker {Z : ra_Z} {r : Int32} {w1 : ra_W} (C : ra_C Z cX6_talker 2 RX6 1 24) (hQ : ra_QI Z r w1) (hr : (zmt Z).sig.returnType = (some .int)) (k : Nat) : ∀ n : Nat, pX6_talker_0 Z r w1 k n := by
  intro n
  induction n with
  | zero => exact (fun _ _ h => by cases h)
  | succ n ih => exact tX6_talker_0 C hQ hr k n
theorem kX6_talker (l : Launch) (G : ra_G) (hj : ra_inj G) (k : Nat) (v1 : Int32) (w : ra_W) (r : Int32) (w1 : ra_W) (h : FX6_talker k v1 w = some (r, w1)) : ra_MI l G yX6_talker cX6_talker 2 (some .int) 1 24 [.ref (G.1 134), .int v1] w r w1 :=
  ra_entryI (own := RX6) (by decide) rfl (Nat.le_of_ble_eq_true rfl) hj (fun Z hl hG C hQ hr => by subst hl; subst hG; exact (tX6_talker C hQ hr k k) _ _ h)
theorem ysX6_talker : ra_YV yX6_talker cX6_talker 2 (some .int) 1 RX6 := ⟨⟨wd_7, wd_831, by decide, by decide, by decide⟩, wd_829, wd_830⟩
/-- TrunkRadioModel.queue -/
def fX6_queue (k : Nat) : Nat → Nat → Int32 → ra_W → Option (Int32 × ra_W)
  | 0, _, _, _ => none
  | n + 1, L, v1, w => match L with
    | _ => if 0 ≤ v1 then (ra_bind (FX6_lines k 139 (ra_st w 134 0 0)) (fun _ w3 => if (w3 134 22) ≤ v1 then (some ((-9), w3)) else (if ra_in v1 7 then some ((w3 146 (ra_ix v1)), w3) else none))) else (some ((-1), (ra_st w 134 0 0)))
theorem fX6_queue_0 (k : Nat) (n : Nat) (v1 : Int32) (w : ra_W) : fX6_queue k (n + 1) 0 v1 w = (if 0 ≤ v1 then (ra_bind (FX6_lines k 139 (ra_st w 134 0 0)) (fun _ w3 => if (w3 134 22) ≤ v1 then (some ((-9), w3)) else (if ra_in v1 7 then some ((w3 146 (ra_ix v1)), w3) else none))) else (some ((-1), (ra_st w 134 0 0)))) := rfl
def FX6_queue (k : Nat) (v1 : Int32) (w : ra_W) : Option (Int32 × ra_W) := fX6_queue k k 0 v1 w
def pX6_queue_0 (Z : ra_Z) (r : Int32) (w1 : ra_W) (k : Nat) (n : Nat) : Prop := ∀ (v1 : Int32) (w : ra_W), fX6_queue k n 0 v1 w = some (r, w1) → ra_J Z 2 0 [(0, .ref ((zG Z).1 134)), (1, .int v1)] [] w
set_option maxHeartbeats 4000000 in
theorem tX6_queue_0 {Z : ra_Z} {r : Int32} {w1 : ra_W} (C : ra_C Z cX6_queue 2 RX6 2 48) (hQ : ra_QI Z r w1) (hr : (zmt Z).sig.returnType = (some .int)) (k : Nat) (n : Nat) : pX6_queue_0 Z r w1 k (n + 1) := by
  intro v1 w hf
  rw [fX6_queue_0] at hf
  refine rg_aload_n (pc := 0) C 0 rfl rfl dX6_queue_0 ?_
  refine rg_iconst (pc := 1) (v := 0) C dX6_queue_1 (by decide) ?_
  refine rg_put (pc := 2) C 134 6 0 kd_134 (by decide) rfl inlX6 tyX6 tyX6_ok nmX6 (by decide) wd_596 rfl rfl rfl (Nat.le_of_ble_eq_true rfl) rfl dX6_queue_2 ?_
  refine rg_iload_n (pc := 5) C 1 rfl rfl dX6_queue_5 ?_
  refine rg_if_ge (pc := 6) (tgt := 11) C dX6_queue_6 (by decide) (fun c1 => ?_) (fun c1 => ?_)
  · replace hf := ra_t hf c1
    refine rg_aload_n (pc := 11) C 0 rfl rfl dX6_queue_11 ?_
    refine rg_aload_n (pc := 12) C 0 rfl rfl dX6_queue_12 ?_
    refine rg_get (pc := 13) C 134 6 12 kd_134 (by decide) rfl inlX6 (by decide) wd_608 rfl dX6_queue_13 ?_
    obtain ⟨r2, w3, e4, hf⟩ := ra_bd hf
    refine rg_callVV (pc := 16) (As := [.ref ((zG Z).1 139)]) (st := []) C (kX6_lines (zl Z) (zG Z) C.hj k 139 kd_139 _ _ _ e4) kd_134 (by decide) rfl ysX6_lines rfl wd_753 ⟨Nat.le_of_ble_eq_true rfl, Nat.le_of_ble_eq_true rfl⟩ rfl (Nat.le_of_ble_eq_true rfl) dX6_queue_16 ?_
    refine rg_iload_n (pc := 19) C 1 rfl rfl dX6_queue_19 ?_
    refine rg_aload_n (pc := 20) C 0 rfl rfl dX6_queue_20 ?_
    refine rg_get (pc := 21) C 134 6 22 kd_134 (by decide) rfl inlX6 (by decide) wd_618 rfl dX6_queue_21 ?_
    refine rg_icmp_ge (pc := 24) (tgt := 36) C dX6_queue_24 (by decide) (fun c5 => ?_) (fun c5 => ?_)
    · replace hf := ra_t hf c5
      refine rg_bipush (pc := 36) (v := (-9)) C dX6_queue_36 (by decide) ?_
      exact rg_iret (pc := 38) C hQ hr hf dX6_queue_38
    · replace hf := ra_f hf c5
      refine rg_aload_n (pc := 27) C 0 rfl rfl dX6_queue_27 ?_
      refine rg_get (pc := 28) C 134 6 21 kd_134 (by decide) rfl inlX6 (by decide) wd_617 rfl dX6_queue_28 ?_
      refine rg_iload_n (pc := 31) C 1 rfl rfl dX6_queue_31 ?_
      obtain ⟨g6, hf⟩ := ra_gd hf
      refine rg_iald (pc := 32) (j := (ra_ix v1)) C 146 kd_146 rfl g6 dX6_queue_32 ?_
      refine rg_goto (pc := 33) (tgt := 38) C dX6_queue_33 (by decide) ?_
      exact rg_iret (pc := 38) C hQ hr hf dX6_queue_38
  · replace hf := ra_f hf c1
    refine rg_iconst (pc := 9) (v := (-1)) C dX6_queue_9 (by decide) ?_
    exact rg_iret (pc := 10) C hQ hr hf dX6_queue_10
theorem tX6_queue {Z : ra_Z} {r : Int32} {w1 : ra_W} (C : ra_C Z cX6_queue 2 RX6 2 48) (hQ : ra_QI Z r w1) (hr : (zmt Z).sig.returnType = (some .int)) (k : Nat) : ∀ n : Nat, pX6_queue_0 Z r w1 k n := by
  intro n
  induction n with
  | zero => exact (fun _ _ h => by cases h)
  | succ n ih => exact tX6_queue_0 C hQ hr k n
theorem kX6_queue (l : Launch) (G : ra_G) (hj : ra_inj G) (k : Nat) (v1 : Int32) (w : ra_W) (r : Int32) (w1 : ra_W) (h : FX6_queue k v1 w = some (r, w1)) : ra_MI l G yX6_queue cX6_queue 2 (some .int) 2 48 [.ref (G.1 134), .int v1] w r w1 :=
  ra_entryI (own := RX6) (by decide) rfl (Nat.le_of_ble_eq_true rfl) hj (fun Z hl hG C hQ hr => by subst hl; subst hG; exact (tX6_queue C hQ hr k k) _ _ h)
theorem ysX6_queue : ra_YV yX6_queue cX6_queue 2 (some .int) 1 RX6 := ⟨⟨wd_7, wd_835, by decide, by decide, by decide⟩, wd_833, wd_834⟩
/-- TrunkRadioModel.soon -/
def fX6_soon (k : Nat) : Nat → Nat → Int32 → Int32 → ra_W → Option (Int32 × ra_W)
  | 0, _, _, _, _ => none
  | n + 1, L, v1, v2, w => match L with
    | 0 => ra_bind (FX6_isRadio k v1 (ra_st w 134 0 0)) (fun r1 w2 => if r1 = 0 then (some ((-1), w2)) else (ra_bind (FX6_copies k 139 140 w2) (fun _ w6 => fX6_soon k n 1 v1 0 w6)))
    | _ => if 60 < v2 then (some ((-9), w)) else (ra_bind (FX6_isOn k 140 v1 w) (fun r2 w3 => if r2 = 0 then (ra_bind (FX6_goes k 140 w3) (fun _ w7 => fX6_soon k n 1 v1 (v2 + 1) w7)) else (some (v2, w3))))
theorem fX6_soon_0 (k : Nat) (n : Nat) (v1 : Int32) (v2 : Int32) (w : ra_W) : fX6_soon k (n + 1) 0 v1 v2 w = (ra_bind (FX6_isRadio k v1 (ra_st w 134 0 0)) (fun r1 w2 => if r1 = 0 then (some ((-1), w2)) else (ra_bind (FX6_copies k 139 140 w2) (fun _ w6 => fX6_soon k n 1 v1 0 w6)))) := rfl
theorem fX6_soon_1 (k : Nat) (n : Nat) (v1 : Int32) (v2 : Int32) (w : ra_W) : fX6_soon k (n + 1) 1 v1 v2 w = (if 60 < v2 then (some ((-9), w)) else (ra_bind (FX6_isOn k 140 v1 w) (fun r2 w3 => if r2 = 0 then (ra_bind (FX6_goes k 140 w3) (fun _ w7 => fX6_soon k n 1 v1 (v2 + 1) w7)) else (some (v2, w3))))) := rfl
def FX6_soon (k : Nat) (v1 : Int32) (w : ra_W) : Option (Int32 × ra_W) := fX6_soon k k 0 v1 0 w
def pX6_soon_0 (Z : ra_Z) (r : Int32) (w1 : ra_W) (k : Nat) (n : Nat) : Prop := ∀ (v1 : Int32) (v2 : Int32) (w : ra_W), fX6_soon k n 0 v1 v2 w = some (r, w1) → ra_J Z 3 0 [(0, .ref ((zG Z).1 134)), (1, .int v1)] [] w
def pX6_soon_1 (Z : ra_Z) (r : Int32) (w1 : ra_W) (k : Nat) (n : Nat) : Prop := ∀ (v1 : Int32) (v2 : Int32) (w : ra_W), fX6_soon k n 1 v1 v2 w = some (r, w1) → ra_J Z 3 28 [(0, .ref ((zG Z).1 134)), (1, .int v1), (2, .int v2)] [] w
set_option maxHeartbeats 4000000 in
theorem tX6_soon_0 {Z : ra_Z} {r : Int32} {w1 : ra_W} (C : ra_C Z cX6_soon 3 RX6 5 116) (hQ : ra_QI Z r w1) (hr : (zmt Z).sig.returnType = (some .int)) (k : Nat) (n : Nat) (ih1 : pX6_soon_1 Z r w1 k n) : pX6_soon_0 Z r w1 k (n + 1) := by
  intro v1 v2 w hf
  rw [fX6_soon_0] at hf
  refine rg_aload_n (pc := 0) C 0 rfl rfl dX6_soon_0 ?_
  refine rg_iconst (pc := 1) (v := 0) C dX6_soon_1 (by decide) ?_
  refine rg_put (pc := 2) C 134 6 0 kd_134 (by decide) rfl inlX6 tyX6 tyX6_ok nmX6 (by decide) wd_596 rfl rfl rfl (Nat.le_of_ble_eq_true rfl) rfl dX6_soon_2 ?_
  refine rg_aload_n (pc := 5) C 0 rfl rfl dX6_soon_5 ?_
  refine rg_iload_n (pc := 6) C 1 rfl rfl dX6_soon_6 ?_
  obtain ⟨r1, w2, e3, hf⟩ := ra_bd hf
  refine rg_callVI (pc := 7) (As := [.int v1]) (st := []) C (kX6_isRadio (zl Z) (zG Z) C.hj k _ _ _ _ e3) kd_134 (by decide) rfl ysX6_isRadio rfl wd_800 ⟨Nat.le_of_ble_eq_true rfl, Nat.le_of_ble_eq_true rfl⟩ rfl (Nat.le_of_ble_eq_true rfl) dX6_soon_7 ?_
  refine rg_if_ne (pc := 10) (tgt := 15) C dX6_soon_10 (by decide) (fun c4 => ?_) (fun c4 => ?_)
  · replace hf := ra_f hf c4
    refine rg_aload_n (pc := 15) C 0 rfl rfl dX6_soon_15 ?_
    refine rg_get (pc := 16) C 134 6 12 kd_134 (by decide) rfl inlX6 (by decide) wd_608 rfl dX6_soon_16 ?_
    refine rg_aload_n (pc := 19) C 0 rfl rfl dX6_soon_19 ?_
    refine rg_get (pc := 20) C 134 6 13 kd_134 (by decide) rfl inlX6 (by decide) wd_609 rfl dX6_soon_20 ?_
    obtain ⟨r5, w6, e7, hf⟩ := ra_bd hf
    refine rg_callSV (pc := 23) (As := [.ref ((zG Z).1 139), .ref ((zG Z).1 140)]) (st := []) C (kX6_copies (zl Z) (zG Z) C.hj k 139 140 kd_139 kd_140 _ _ _ e7) ysX6_copies rfl wd_593 ⟨Nat.le_of_ble_eq_true rfl, Nat.le_of_ble_eq_true rfl⟩ rfl (Nat.le_of_ble_eq_true rfl) dX6_soon_23 ?_
    refine rg_iconst (pc := 26) (v := 0) C dX6_soon_26 (by decide) ?_
    refine rg_istore_n (pc := 27) (lv' := [(0, .ref ((zG Z).1 134)), (1, .int v1), (2, .int 0)]) C [1, 2, 0] rfl rfl (by decide) dX6_soon_27 ?_
    exact ih1 _ _ _ hf
  · replace hf := ra_t hf c4
    refine rg_iconst (pc := 13) (v := (-1)) C dX6_soon_13 (by decide) ?_
    exact rg_iret (pc := 14) C hQ hr hf dX6_soon_14
set_option maxHeartbeats 4000000 in
theorem tX6_soon_1 {Z : ra_Z} {r : Int32} {w1 : ra_W} (C : ra_C Z cX6_soon 3 RX6 5 116) (hQ : ra_QI Z r w1) (hr : (zmt Z).sig.returnType = (some .int)) (k : Nat) (n : Nat) (ih1 : pX6_soon_1 Z r w1 k n) : pX6_soon_1 Z r w1 k (n + 1) := by
  intro v1 v2 w hf
  rw [fX6_soon_1] at hf
  refine rg_iload_n (pc := 28) C 2 rfl rfl dX6_soon_28 ?_
  refine rg_bipush (pc := 29) (v := 60) C dX6_soon_29 (by decide) ?_
  refine rg_icmp_gt (pc := 31) (tgt := 62) C dX6_soon_31 (by decide) (fun c1 => ?_) (fun c1 => ?_)
  · replace hf := ra_t hf c1
    refine rg_bipush (pc := 62) (v := (-9)) C dX6_soon_62 (by decide) ?_
    exact rg_iret (pc := 64) C hQ hr hf dX6_soon_64
  · replace hf := ra_f hf c1
    refine rg_aload_n (pc := 34) C 0 rfl rfl dX6_soon_34 ?_
    refine rg_aload_n (pc := 35) C 0 rfl rfl dX6_soon_35 ?_
    refine rg_get (pc := 36) C 134 6 13 kd_134 (by decide) rfl inlX6 (by decide) wd_609 rfl dX6_soon_36 ?_
    refine rg_iload_n (pc := 39) C 1 rfl rfl dX6_soon_39 ?_
    obtain ⟨r2, w3, e4, hf⟩ := ra_bd hf
    refine rg_callVI (pc := 40) (As := [.ref ((zG Z).1 140), .int v1]) (st := []) C (kX6_isOn (zl Z) (zG Z) C.hj k 140 kd_140 _ _ _ _ e4) kd_134 (by decide) rfl ysX6_isOn rfl wd_792 ⟨Nat.le_of_ble_eq_true rfl, Nat.le_of_ble_eq_true rfl⟩ rfl (Nat.le_of_ble_eq_true rfl) dX6_soon_40 ?_
    refine rg_if_eq (pc := 43) (tgt := 48) C dX6_soon_43 (by decide) (fun c5 => ?_) (fun c5 => ?_)
    · replace hf := ra_t hf c5
      refine rg_aload_n (pc := 48) C 0 rfl rfl dX6_soon_48 ?_
      refine rg_aload_n (pc := 49) C 0 rfl rfl dX6_soon_49 ?_
      refine rg_get (pc := 50) C 134 6 13 kd_134 (by decide) rfl inlX6 (by decide) wd_609 rfl dX6_soon_50 ?_
      obtain ⟨r6, w7, e8, hf⟩ := ra_bd hf
      refine rg_callVV (pc := 53) (As := [.ref ((zG Z).1 140)]) (st := []) C (kX6_goes (zl Z) (zG Z) C.hj k 140 kd_140 _ _ _ e8) kd_134 (by decide) rfl ysX6_goes rfl wd_727 ⟨Nat.le_of_ble_eq_true rfl, Nat.le_of_ble_eq_true rfl⟩ rfl (Nat.le_of_ble_eq_true rfl) dX6_soon_53 ?_
      refine rg_iinc (pc := 56) (v := (v2 + 1)) (lv' := [(0, .ref ((zG Z).1 134)), (1, .int v1), (2, .int (v2 + 1))]) C 2 rfl [1, 2, 0] (ra_ii (by decide)) rfl (by decide) dX6_soon_56 ?_
      refine rg_goto (pc := 59) (tgt := 28) C dX6_soon_59 (by decide) ?_
      exact ih1 _ _ _ hf
    · replace hf := ra_f hf c5
      refine rg_iload_n (pc := 46) C 2 rfl rfl dX6_soon_46 ?_
      exact rg_iret (pc := 47) C hQ hr hf dX6_soon_47
theorem tX6_soon {Z : ra_Z} {r : Int32} {w1 : ra_W} (C : ra_C Z cX6_soon 3 RX6 5 116) (hQ : ra_QI Z r w1) (hr : (zmt Z).sig.returnType = (some .int)) (k : Nat) : ∀ n : Nat, pX6_soon_0 Z r w1 k n ∧ pX6_soon_1 Z r w1 k n := by
  intro n
  induction n with
  | zero => exact ⟨(fun _ _ _ h => by cases h), (fun _ _ _ h => by cases h)⟩
  | succ n ih =>
    obtain ⟨ih0, ih1⟩ := ih
    exact ⟨tX6_soon_0 C hQ hr k n ih1, tX6_soon_1 C hQ hr k n ih1⟩
theorem kX6_soon (l : Launch) (G : ra_G) (hj : ra_inj G) (k : Nat) (v1 : Int32) (w : ra_W) (r : Int32) (w1 : ra_W) (h : FX6_soon k v1 w = some (r, w1)) : ra_MI l G yX6_soon cX6_soon 3 (some .int) 5 116 [.ref (G.1 134), .int v1] w r w1 :=
  ra_entryI (own := RX6) (by decide) rfl (Nat.le_of_ble_eq_true rfl) hj (fun Z hl hG C hQ hr => by subst hl; subst hG; exact (tX6_soon C hQ hr k k).1 _ _ _ h)
theorem ysX6_soon : ra_YV yX6_soon cX6_soon 3 (some .int) 1 RX6 := ⟨⟨wd_7, wd_839, by decide, by decide, by decide⟩, wd_837, wd_838⟩
/-- TrunkRadioModel.within -/
def fX6_within (k : Nat) : Nat → Nat → Int32 → Int32 → Int32 → Int32 → Int32 → Int32 → ra_W → Option (Int32 × ra_W)
  | 0, _, _, _, _, _, _, _, _ => none
  | n + 1, L, v1, v2, v3, v4, s0, s1, w => match L with
    | 0 => ra_bind (FX6_in k v1 1 60 (ra_st w 134 0 0)) (fun r1 w2 => if r1 = 0 then (some ((-1), w2)) else (ra_bind (FX6_in k v2 0 3 w2) (fun r5 w6 => if r5 = 0 then (some ((-1), w6)) else (ra_bind (FX6_copies k 139 140 w6) (fun _ w10 => fX6_within k n 1 v1 v2 0 0 0 0 w10)))))
    | 1 => if v1 ≤ v4 then (if 2 ≤ v2 then (if v2 = 2 then (some (((w 140 3) - (w 139 3)), w)) else (some (((w 140 5) - (w 139 5)), w))) else (some (v3, w))) else (ra_bind (FX6_goes k 140 w) (fun _ w5 => if 2 ≤ v2 then (fX6_within k n 2 v1 v2 0 v4 v3 0 w5) else (ra_bind (FX6_freeAt k 140 v2 w5) (fun r8 w9 => if 0 < r8 then (fX6_within k n 2 v1 v2 0 v4 v3 0 w9) else (fX6_within k n 3 v1 v2 0 v4 1 v3 w9)))))
    | 2 => fX6_within k n 3 v1 v2 0 v4 0 s0 w
    | _ => fX6_within k n 1 v1 v2 (s1 + s0) (v4 + 1) 0 0 w
theorem fX6_within_0 (k : Nat) (n : Nat) (v1 : Int32) (v2 : Int32) (v3 : Int32) (v4 : Int32) (s0 : Int32) (s1 : Int32) (w : ra_W) : fX6_within k (n + 1) 0 v1 v2 v3 v4 s0 s1 w = (ra_bind (FX6_in k v1 1 60 (ra_st w 134 0 0)) (fun r1 w2 => if r1 = 0 then (some ((-1), w2)) else (ra_bind (FX6_in k v2 0 3 w2) (fun r5 w6 => if r5 = 0 then (some ((-1), w6)) else (ra_bind (FX6_copies k 139 140 w6) (fun _ w10 => fX6_within k n 1 v1 v2 0 0 0 0 w10)))))) := rfl
theorem fX6_within_1 (k : Nat) (n : Nat) (v1 : Int32) (v2 : Int32) (v3 : Int32) (v4 : Int32) (s0 : Int32) (s1 : Int32) (w : ra_W) : fX6_within k (n + 1) 1 v1 v2 v3 v4 s0 s1 w = (if v1 ≤ v4 then (if 2 ≤ v2 then (if v2 = 2 then (some (((w 140 3) - (w 139 3)), w)) else (some (((w 140 5) - (w 139 5)), w))) else (some (v3, w))) else (ra_bind (FX6_goes k 140 w) (fun _ w5 => if 2 ≤ v2 then (fX6_within k n 2 v1 v2 0 v4 v3 0 w5) else (ra_bind (FX6_freeAt k 140 v2 w5) (fun r8 w9 => if 0 < r8 then (fX6_within k n 2 v1 v2 0 v4 v3 0 w9) else (fX6_within k n 3 v1 v2 0 v4 1 v3 w9)))))) := rfl
theorem fX6_within_2 (k : Nat) (n : Nat) (v1 : Int32) (v2 : Int32) (v3 : Int32) (v4 : Int32) (s0 : Int32) (s1 : Int32) (w : ra_W) : fX6_within k (n + 1) 2 v1 v2 v3 v4 s0 s1 w = (fX6_within k n 3 v1 v2 0 v4 0 s0 w) := rfl
theorem fX6_within_3 (k : Nat) (n : Nat) (v1 : Int32) (v2 : Int32) (v3 : Int32) (v4 : Int32) (s0 : Int32) (s1 : Int32) (w : ra_W) : fX6_within k (n + 1) 3 v1 v2 v3 v4 s0 s1 w = (fX6_within k n 1 v1 v2 (s1 + s0) (v4 + 1) 0 0 w) := rfl
def FX6_within (k : Nat) (v1 : Int32) (v2 : Int32) (w : ra_W) : Option (Int32 × ra_W) := fX6_within k k 0 v1 v2 0 0 0 0 w
def pX6_within_0 (Z : ra_Z) (r : Int32) (w1 : ra_W) (k : Nat) (n : Nat) : Prop := ∀ (v1 : Int32) (v2 : Int32) (v3 : Int32) (v4 : Int32) (s0 : Int32) (s1 : Int32) (w : ra_W), fX6_within k n 0 v1 v2 v3 v4 s0 s1 w = some (r, w1) → ra_J Z 5 0 [(0, .ref ((zG Z).1 134)), (1, .int v1), (2, .int v2)] [] w
def pX6_within_1 (Z : ra_Z) (r : Int32) (w1 : ra_W) (k : Nat) (n : Nat) : Prop := ∀ (v1 : Int32) (v2 : Int32) (v3 : Int32) (v4 : Int32) (s0 : Int32) (s1 : Int32) (w : ra_W), fX6_within k n 1 v1 v2 v3 v4 s0 s1 w = some (r, w1) → ra_J Z 5 42 [(0, .ref ((zG Z).1 134)), (1, .int v1), (2, .int v2), (3, .int v3), (4, .int v4)] [] w
def pX6_within_2 (Z : ra_Z) (r : Int32) (w1 : ra_W) (k : Nat) (n : Nat) : Prop := ∀ (v1 : Int32) (v2 : Int32) (v3 : Int32) (v4 : Int32) (s0 : Int32) (s1 : Int32) (w : ra_W), fX6_within k n 2 v1 v2 v3 v4 s0 s1 w = some (r, w1) → ra_J Z 5 78 [(0, .ref ((zG Z).1 134)), (1, .int v1), (2, .int v2), (4, .int v4)] [.int s0] w
def pX6_within_3 (Z : ra_Z) (r : Int32) (w1 : ra_W) (k : Nat) (n : Nat) : Prop := ∀ (v1 : Int32) (v2 : Int32) (v3 : Int32) (v4 : Int32) (s0 : Int32) (s1 : Int32) (w : ra_W), fX6_within k n 3 v1 v2 v3 v4 s0 s1 w = some (r, w1) → ra_J Z 5 79 [(0, .ref ((zG Z).1 134)), (1, .int v1), (2, .int v2), (4, .int v4)] [.int s0, .int s1] w
set_option maxHeartbeats 4000000 in
theorem tX6_within_0 {Z : ra_Z} {r : Int32} {w1 : ra_W} (C : ra_C Z cX6_within 5 RX6 5 116) (hQ : ra_QI Z r w1) (hr : (zmt Z).sig.returnType = (some .int)) (k : Nat) (n : Nat) (ih1 : pX6_within_1 Z r w1 k n) : pX6_within_0 Z r w1 k (n + 1) := by
  intro v1 v2 v3 v4 s0 s1 w hf
  rw [fX6_within_0] at hf
  refine rg_aload_n (pc := 0) C 0 rfl rfl dX6_within_0 ?_
  refine rg_iconst (pc := 1) (v := 0) C dX6_within_1 (by decide) ?_
  refine rg_put (pc := 2) C 134 6 0 kd_134 (by decide) rfl inlX6 tyX6 tyX6_ok nmX6 (by decide) wd_596 rfl rfl rfl (Nat.le_of_ble_eq_true rfl) rfl dX6_within_2 ?_
  refine rg_iload_n (pc := 5) C 1 rfl rfl dX6_within_5 ?_
  refine rg_iconst (pc := 6) (v := 1) C dX6_within_6 (by decide) ?_
  refine rg_bipush (pc := 7) (v := 60) C dX6_within_7 (by decide) ?_
  obtain ⟨r1, w2, e3, hf⟩ := ra_bd hf
  refine rg_callSI (pc := 9) (As := [.int v1, .int 1, .int 60]) (st := []) C (kX6_in (zl Z) (zG Z) C.hj k _ _ _ _ _ _ e3) ysX6_in rfl wd_677 ⟨Nat.le_of_ble_eq_true rfl, Nat.le_of_ble_eq_true rfl⟩ rfl (Nat.le_of_ble_eq_true rfl) dX6_within_9 ?_
  refine rg_if_eq (pc := 12) (tgt := 24) C dX6_within_12 (by decide) (fun c4 => ?_) (fun c4 => ?_)
  · replace hf := ra_t hf c4
    refine rg_iconst (pc := 24) (v := (-1)) C dX6_within_24 (by decide) ?_
    exact rg_iret (pc := 25) C hQ hr hf dX6_within_25
  · replace hf := ra_f hf c4
    refine rg_iload_n (pc := 15) C 2 rfl rfl dX6_within_15 ?_
    refine rg_iconst (pc := 16) (v := 0) C dX6_within_16 (by decide) ?_
    refine rg_iconst (pc := 17) (v := 3) C dX6_within_17 (by decide) ?_
    obtain ⟨r5, w6, e7, hf⟩ := ra_bd hf
    refine rg_callSI (pc := 18) (As := [.int v2, .int 0, .int 3]) (st := []) C (kX6_in (zl Z) (zG Z) C.hj k _ _ _ _ _ _ e7) ysX6_in rfl wd_677 ⟨Nat.le_of_ble_eq_true rfl, Nat.le_of_ble_eq_true rfl⟩ rfl (Nat.le_of_ble_eq_true rfl) dX6_within_18 ?_
    refine rg_if_ne (pc := 21) (tgt := 26) C dX6_within_21 (by decide) (fun c8 => ?_) (fun c8 => ?_)
    · replace hf := ra_f hf c8
      refine rg_aload_n (pc := 26) C 0 rfl rfl dX6_within_26 ?_
      refine rg_get (pc := 27) C 134 6 12 kd_134 (by decide) rfl inlX6 (by decide) wd_608 rfl dX6_within_27 ?_
      refine rg_aload_n (pc := 30) C 0 rfl rfl dX6_within_30 ?_
      refine rg_get (pc := 31) C 134 6 13 kd_134 (by decide) rfl inlX6 (by decide) wd_609 rfl dX6_within_31 ?_
      obtain ⟨r9, w10, e11, hf⟩ := ra_bd hf
      refine rg_callSV (pc := 34) (As := [.ref ((zG Z).1 139), .ref ((zG Z).1 140)]) (st := []) C (kX6_copies (zl Z) (zG Z) C.hj k 139 140 kd_139 kd_140 _ _ _ e11) ysX6_copies rfl wd_593 ⟨Nat.le_of_ble_eq_true rfl, Nat.le_of_ble_eq_true rfl⟩ rfl (Nat.le_of_ble_eq_true rfl) dX6_within_34 ?_
      refine rg_iconst (pc := 37) (v := 0) C dX6_within_37 (by decide) ?_
      refine rg_istore_n (pc := 38) (lv' := [(0, .ref ((zG Z).1 134)), (1, .int v1), (2, .int v2), (3, .int 0)]) C [1, 2, 3, 0] rfl rfl (by decide) dX6_within_38 ?_
      refine rg_iconst (pc := 39) (v := 0) C dX6_within_39 (by decide) ?_
      refine rg_istore (pc := 40) (lv' := [(0, .ref ((zG Z).1 134)), (1, .int v1), (2, .int v2), (3, .int 0), (4, .int 0)]) C [1, 2, 3, 4, 0] rfl (by decide) dX6_within_40 ?_
      exact ih1 _ _ _ _ _ _ _ hf
    · replace hf := ra_t hf c8
      refine rg_iconst (pc := 24) (v := (-1)) C dX6_within_24 (by decide) ?_
      exact rg_iret (pc := 25) C hQ hr hf dX6_within_25
set_option maxHeartbeats 4000000 in
theorem tX6_within_1 {Z : ra_Z} {r : Int32} {w1 : ra_W} (C : ra_C Z cX6_within 5 RX6 5 116) (hQ : ra_QI Z r w1) (hr : (zmt Z).sig.returnType = (some .int)) (k : Nat) (n : Nat) (ih2 : pX6_within_2 Z r w1 k n) (ih3 : pX6_within_3 Z r w1 k n) : pX6_within_1 Z r w1 k (n + 1) := by
  intro v1 v2 v3 v4 s0 s1 w hf
  rw [fX6_within_1] at hf
  refine rg_iload (pc := 42) C 4 rfl dX6_within_42 ?_
  refine rg_iload_n (pc := 44) C 1 rfl rfl dX6_within_44 ?_
  refine rg_icmp_ge (pc := 45) (tgt := 87) C dX6_within_45 (by decide) (fun c1 => ?_) (fun c1 => ?_)
  · replace hf := ra_t hf c1
    refine rg_iload_n (pc := 87) C 2 rfl rfl dX6_within_87 ?_
    refine rg_iconst (pc := 88) (v := 2) C dX6_within_88 (by decide) ?_
    refine rg_icmp_ge (pc := 89) (tgt := 96) C dX6_within_89 (by decide) (fun c2 => ?_) (fun c2 => ?_)
    · replace hf := ra_t hf c2
      refine rg_iload_n (pc := 96) C 2 rfl rfl dX6_within_96 ?_
      refine rg_iconst (pc := 97) (v := 2) C dX6_within_97 (by decide) ?_
      refine rg_icmp_ne (pc := 98) (tgt := 117) C dX6_within_98 (by decide) (fun c3 => ?_) (fun c3 => ?_)
      · replace hf := ra_f hf c3
        refine rg_aload_n (pc := 117) C 0 rfl rfl dX6_within_117 ?_
        refine rg_get (pc := 118) C 134 6 13 kd_134 (by decide) rfl inlX6 (by decide) wd_609 rfl dX6_within_118 ?_
        refine rg_iconst (pc := 121) (v := 5) C dX6_within_121 (by decide) ?_
        refine rg_iald (pc := 122) (j := 5) C 140 kd_140 (by decide) (by decide) dX6_within_122 ?_
        refine rg_aload_n (pc := 123) C 0 rfl rfl dX6_within_123 ?_
        refine rg_get (pc := 124) C 134 6 12 kd_134 (by decide) rfl inlX6 (by decide) wd_608 rfl dX6_within_124 ?_
        refine rg_iconst (pc := 127) (v := 5) C dX6_within_127 (by decide) ?_
        refine rg_iald (pc := 128) (j := 5) C 139 kd_139 (by decide) (by decide) dX6_within_128 ?_
        refine rg_isub (pc := 129) C dX6_within_129 ?_
        exact rg_iret (pc := 130) C hQ hr hf dX6_within_130
      · replace hf := ra_t hf c3
        refine rg_aload_n (pc := 101) C 0 rfl rfl dX6_within_101 ?_
        refine rg_get (pc := 102) C 134 6 13 kd_134 (by decide) rfl inlX6 (by decide) wd_609 rfl dX6_within_102 ?_
        refine rg_iconst (pc := 105) (v := 3) C dX6_within_105 (by decide) ?_
        refine rg_iald (pc := 106) (j := 3) C 140 kd_140 (by decide) (by decide) dX6_within_106 ?_
        refine rg_aload_n (pc := 107) C 0 rfl rfl dX6_within_107 ?_
        refine rg_get (pc := 108) C 134 6 12 kd_134 (by decide) rfl inlX6 (by decide) wd_608 rfl dX6_within_108 ?_
        refine rg_iconst (pc := 111) (v := 3) C dX6_within_111 (by decide) ?_
        refine rg_iald (pc := 112) (j := 3) C 139 kd_139 (by decide) (by decide) dX6_within_112 ?_
        refine rg_isub (pc := 113) C dX6_within_113 ?_
        refine rg_goto (pc := 114) (tgt := 130) C dX6_within_114 (by decide) ?_
        exact rg_iret (pc := 130) C hQ hr hf dX6_within_130
    · replace hf := ra_f hf c2
      refine rg_iload_n (pc := 92) C 3 rfl rfl dX6_within_92 ?_
      refine rg_goto (pc := 93) (tgt := 130) C dX6_within_93 (by decide) ?_
      exact rg_iret (pc := 130) C hQ hr hf dX6_within_130
  · replace hf := ra_f hf c1
    refine rg_aload_n (pc := 48) C 0 rfl rfl dX6_within_48 ?_
    refine rg_aload_n (pc := 49) C 0 rfl rfl dX6_within_49 ?_
    refine rg_get (pc := 50) C 134 6 13 kd_134 (by decide) rfl inlX6 (by decide) wd_609 rfl dX6_within_50 ?_
    obtain ⟨r4, w5, e6, hf⟩ := ra_bd hf
    refine rg_callVV (pc := 53) (As := [.ref ((zG Z).1 140)]) (st := []) C (kX6_goes (zl Z) (zG Z) C.hj k 140 kd_140 _ _ _ e6) kd_134 (by decide) rfl ysX6_goes rfl wd_727 ⟨Nat.le_of_ble_eq_true rfl, Nat.le_of_ble_eq_true rfl⟩ rfl (Nat.le_of_ble_eq_true rfl) dX6_within_53 ?_
    refine rg_iload_n (pc := 56) C 3 rfl rfl dX6_within_56 ?_
    refine rg_iload_n (pc := 57) C 2 rfl rfl dX6_within_57 ?_
    refine rg_iconst (pc := 58) (v := 2) C dX6_within_58 (by decide) ?_
    refine rg_icmp_ge (pc := 59) (tgt := 78) C dX6_within_59 (by decide) (fun c7 => ?_) (fun c7 => ?_)
    · replace hf := ra_t hf c7
      refine rg_sub [0, 1, 2, 4] rfl ?_
      exact ih2 _ _ _ _ _ _ _ hf
    · replace hf := ra_f hf c7
      refine rg_aload_n (pc := 62) C 0 rfl rfl dX6_within_62 ?_
      refine rg_aload_n (pc := 63) C 0 rfl rfl dX6_within_63 ?_
      refine rg_get (pc := 64) C 134 6 13 kd_134 (by decide) rfl inlX6 (by decide) wd_609 rfl dX6_within_64 ?_
      refine rg_iload_n (pc := 67) C 2 rfl rfl dX6_within_67 ?_
      obtain ⟨r8, w9, e10, hf⟩ := ra_bd hf
      refine rg_callVI (pc := 68) (As := [.ref ((zG Z).1 140), .int v2]) (st := [.int v3]) C (kX6_freeAt (zl Z) (zG Z) C.hj k 140 kd_140 _ _ _ _ e10) kd_134 (by decide) rfl ysX6_freeAt rfl wd_780 ⟨Nat.le_of_ble_eq_true rfl, Nat.le_of_ble_eq_true rfl⟩ rfl (Nat.le_of_ble_eq_true rfl) dX6_within_68 ?_
      refine rg_if_gt (pc := 71) (tgt := 78) C dX6_within_71 (by decide) (fun c11 => ?_) (fun c11 => ?_)
      · replace hf := ra_t hf c11
        refine rg_sub [0, 1, 2, 4] rfl ?_
        exact ih2 _ _ _ _ _ _ _ hf
      · replace hf := ra_f hf c11
        refine rg_iconst (pc := 74) (v := 1) C dX6_within_74 (by decide) ?_
        refine rg_goto (pc := 75) (tgt := 79) C dX6_within_75 (by decide) ?_
        refine rg_sub [0, 1, 2, 4] rfl ?_
        exact ih3 _ _ _ _ _ _ _ hf
set_option maxHeartbeats 4000000 in
theorem tX6_within_2 {Z : ra_Z} {r : Int32} {w1 : ra_W} (C : ra_C Z cX6_within 5 RX6 5 116) (hQ : ra_QI Z r w1) (hr : (zmt Z).sig.returnType = (some .int)) (k : Nat) (n : Nat) (ih3 : pX6_within_3 Z r w1 k n) : pX6_within_2 Z r w1 k (n + 1) := by
  intro v1 v2 v3 v4 s0 s1 w hf
  rw [fX6_within_2] at hf
  refine rg_iconst (pc := 78) (v := 0) C dX6_within_78 (by decide) ?_
  exact ih3 _ _ _ _ _ _ _ hf
set_option maxHeartbeats 4000000 in
theorem tX6_within_3 {Z : ra_Z} {r : Int32} {w1 : ra_W} (C : ra_C Z cX6_within 5 RX6 5 116) (hQ : ra_QI Z r w1) (hr : (zmt Z).sig.returnType = (some .int)) (k : Nat) (n : Nat) (ih1 : pX6_within_1 Z r w1 k n) : pX6_within_3 Z r w1 k (n + 1) := by
  intro v1 v2 v3 v4 s0 s1 w hf
  rw [fX6_within_3] at hf
  refine rg_iadd (pc := 79) C dX6_within_79 ?_
  refine rg_istore_n (pc := 80) (lv' := [(0, .ref ((zG Z).1 134)), (1, .int v1), (2, .int v2), (3, .int (s1 + s0)), (4, .int v4)]) C [1, 2, 3, 0, 4] rfl rfl (by decide) dX6_within_80 ?_
  refine rg_iinc (pc := 81) (v := (v4 + 1)) (lv' := [(0, .ref ((zG Z).1 134)), (1, .int v1), (2, .int v2), (3, .int (s1 + s0)), (4, .int (v4 + 1))]) C 4 rfl [1, 2, 3, 4, 0] (ra_ii (by decide)) rfl (by decide) dX6_within_81 ?_
  refine rg_goto (pc := 84) (tgt := 42) C dX6_within_84 (by decide) ?_
  exact ih1 _ _ _ _ _ _ _ hf
theorem tX6_within {Z : ra_Z} {r : Int32} {w1 : ra_W} (C : ra_C Z cX6_within 5 RX6 5 116) (hQ : ra_QI Z r w1) (hr : (zmt Z).sig.returnType = (some .int)) (k : Nat) : ∀ n : Nat, pX6_within_0 Z r w1 k n ∧ pX6_within_1 Z r w1 k n ∧ pX6_within_2 Z r w1 k n ∧ pX6_within_3 Z r w1 k n := by
  intro n
  induction n with
  | zero => exact ⟨(fun _ _ _ _ _ _ _ h => by cases h), (fun _ _ _ _ _ _ _ h => by cases h), (fun _ _ _ _ _ _ _ h => by cases h), (fun _ _ _ _ _ _ _ h => by cases h)⟩
  | succ n ih =>
    obtain ⟨ih0, ih1, ih2, ih3⟩ := ih
    exact ⟨tX6_within_0 C hQ hr k n ih1, tX6_within_1 C hQ hr k n ih2 ih3, tX6_within_2 C hQ hr k n ih3, tX6_within_3 C hQ hr k n ih1⟩
theorem kX6_within (l : Launch) (G : ra_G) (hj : ra_inj G) (k : Nat) (v1 : Int32) (v2 : Int32) (w : ra_W) (r : Int32) (w1 : ra_W) (h : FX6_within k v1 v2 w = some (r, w1)) : ra_MI l G yX6_within cX6_within 5 (some .int) 5 116 [.ref (G.1 134), .int v1, .int v2] w r w1 :=
  ra_entryI (own := RX6) (by decide) rfl (Nat.le_of_ble_eq_true rfl) hj (fun Z hl hG C hQ hr => by subst hl; subst hG; exact (tX6_within C hQ hr k k).1 _ _ _ _ _ _ _ h)
theorem ysX6_within : ra_YV yX6_within cX6_within 5 (some .int) 2 RX6 := ⟨⟨wd_7, wd_843, by decide, by decide, by decide⟩, wd_841, wd_842⟩
/-- TrunkRadioModel.presses2 -/
def fX6_presses2 (k : Nat) : Nat → Nat → Int32 → Int32 → ra_W → Option (Int32 × ra_W)
  | 0, _, _, _, _ => none
  | n + 1, L, v1, v2, w => match L with
    | 0 => ra_bind (FX6_copies k 139 140 w) (fun _ w2 => fX6_presses2 k n 1 v1 0 w2)
    | 1 => if (w 136 0) ≤ v2 then (some (0, w)) else (ra_bind (FX6_has k v1 v2 w) (fun r2 w3 => if r2 = 0 then (fX6_presses2 k n 2 v1 v2 w3) else (if ra_in (13 + v2) 41 then if (w3 140 (ra_ix (13 + v2))) = 0 then (fX6_presses2 k n 2 v1 v2 (ra_st w3 140 (ra_ix (13 + v2)) 1)) else (fX6_presses2 k n 2 v1 v2 w3) else none)))
    | _ => fX6_presses2 k n 1 v1 (v2 + 1) w
theorem fX6_presses2_0 (k : Nat) (n : Nat) (v1 : Int32) (v2 : Int32) (w : ra_W) : fX6_presses2 k (n + 1) 0 v1 v2 w = (ra_bind (FX6_copies k 139 140 w) (fun _ w2 => fX6_presses2 k n 1 v1 0 w2)) := rfl
theorem fX6_presses2_1 (k : Nat) (n : Nat) (v1 : Int32) (v2 : Int32) (w : ra_W) : fX6_presses2 k (n + 1) 1 v1 v2 w = (if (w 136 0) ≤ v2 then (some (0, w)) else (ra_bind (FX6_has k v1 v2 w) (fun r2 w3 => if r2 = 0 then (fX6_presses2 k n 2 v1 v2 w3) else (if ra_in (13 + v2) 41 then if (w3 140 (ra_ix (13 + v2))) = 0 then (fX6_presses2 k n 2 v1 v2 (ra_st w3 140 (ra_ix (13 + v2)) 1)) else (fX6_presses2 k n 2 v1 v2 w3) else none)))) := rfl
theorem fX6_presses2_2 (k : Nat) (n : Nat) (v1 : Int32) (v2 : Int32) (w : ra_W) : fX6_presses2 k (n + 1) 2 v1 v2 w = (fX6_presses2 k n 1 v1 (v2 + 1) w) := rfl
def FX6_presses2 (k : Nat) (v1 : Int32) (w : ra_W) : Option (Int32 × ra_W) := fX6_presses2 k k 0 v1 0 w
def pX6_presses2_0 (Z : ra_Z) (r : Int32) (w1 : ra_W) (k : Nat) (n : Nat) : Prop := ∀ (v1 : Int32) (v2 : Int32) (w : ra_W), fX6_presses2 k n 0 v1 v2 w = some (r, w1) → ra_J Z 3 0 [(0, .ref ((zG Z).1 134)), (1, .int v1)] [] w
def pX6_presses2_1 (Z : ra_Z) (r : Int32) (w1 : ra_W) (k : Nat) (n : Nat) : Prop := ∀ (v1 : Int32) (v2 : Int32) (w : ra_W), fX6_presses2 k n 1 v1 v2 w = some (r, w1) → ra_J Z 3 13 [(0, .ref ((zG Z).1 134)), (1, .int v1), (2, .int v2)] [] w
def pX6_presses2_2 (Z : ra_Z) (r : Int32) (w1 : ra_W) (k : Nat) (n : Nat) : Prop := ∀ (v1 : Int32) (v2 : Int32) (w : ra_W), fX6_presses2 k n 2 v1 v2 w = some (r, w1) → ra_J Z 3 53 [(0, .ref ((zG Z).1 134)), (1, .int v1), (2, .int v2)] [] w
set_option maxHeartbeats 4000000 in
theorem tX6_presses2_0 {Z : ra_Z} {r : Int32} {w1 : ra_W} (C : ra_C Z cX6_presses2 3 RX6 1 22) (hQ : ra_QV Z r w1) (hr : (zmt Z).sig.returnType = none) (k : Nat) (n : Nat) (ih1 : pX6_presses2_1 Z r w1 k n) : pX6_presses2_0 Z r w1 k (n + 1) := by
  intro v1 v2 w hf
  rw [fX6_presses2_0] at hf
  refine rg_aload_n (pc := 0) C 0 rfl rfl dX6_presses2_0 ?_
  refine rg_get (pc := 1) C 134 6 12 kd_134 (by decide) rfl inlX6 (by decide) wd_608 rfl dX6_presses2_1 ?_
  refine rg_aload_n (pc := 4) C 0 rfl rfl dX6_presses2_4 ?_
  refine rg_get (pc := 5) C 134 6 13 kd_134 (by decide) rfl inlX6 (by decide) wd_609 rfl dX6_presses2_5 ?_
  obtain ⟨r1, w2, e3, hf⟩ := ra_bd hf
  refine rg_callSV (pc := 8) (As := [.ref ((zG Z).1 139), .ref ((zG Z).1 140)]) (st := []) C (kX6_copies (zl Z) (zG Z) C.hj k 139 140 kd_139 kd_140 _ _ _ e3) ysX6_copies rfl wd_593 ⟨Nat.le_of_ble_eq_true rfl, Nat.le_of_ble_eq_true rfl⟩ rfl (Nat.le_of_ble_eq_true rfl) dX6_presses2_8 ?_
  refine rg_iconst (pc := 11) (v := 0) C dX6_presses2_11 (by decide) ?_
  refine rg_istore_n (pc := 12) (lv' := [(0, .ref ((zG Z).1 134)), (1, .int v1), (2, .int 0)]) C [1, 2, 0] rfl rfl (by decide) dX6_presses2_12 ?_
  exact ih1 _ _ _ hf
set_option maxHeartbeats 4000000 in
theorem tX6_presses2_1 {Z : ra_Z} {r : Int32} {w1 : ra_W} (C : ra_C Z cX6_presses2 3 RX6 1 22) (hQ : ra_QV Z r w1) (hr : (zmt Z).sig.returnType = none) (k : Nat) (n : Nat) (ih2 : pX6_presses2_2 Z r w1 k n) : pX6_presses2_1 Z r w1 k (n + 1) := by
  intro v1 v2 w hf
  rw [fX6_presses2_1] at hf
  refine rg_iload_n (pc := 13) C 2 rfl rfl dX6_presses2_13 ?_
  refine rg_aload_n (pc := 14) C 0 rfl rfl dX6_presses2_14 ?_
  refine rg_get (pc := 15) C 134 6 9 kd_134 (by decide) rfl inlX6 (by decide) wd_605 rfl dX6_presses2_15 ?_
  refine rg_iconst (pc := 18) (v := 0) C dX6_presses2_18 (by decide) ?_
  refine rg_iald (pc := 19) (j := 0) C 136 kd_136 (by decide) (by decide) dX6_presses2_19 ?_
  refine rg_icmp_ge (pc := 20) (tgt := 59) C dX6_presses2_20 (by decide) (fun c1 => ?_) (fun c1 => ?_)
  · replace hf := ra_t hf c1
    exact rg_vret (pc := 59) C hQ hr hf dX6_presses2_59
  · replace hf := ra_f hf c1
    refine rg_iload_n (pc := 23) C 1 rfl rfl dX6_presses2_23 ?_
    refine rg_iload_n (pc := 24) C 2 rfl rfl dX6_presses2_24 ?_
    obtain ⟨r2, w3, e4, hf⟩ := ra_bd hf
    refine rg_callSI (pc := 25) (As := [.int v1, .int v2]) (st := []) C (kX6_has (zl Z) (zG Z) C.hj k _ _ _ _ _ e4) ysX6_has rfl wd_777 ⟨Nat.le_of_ble_eq_true rfl, Nat.le_of_ble_eq_true rfl⟩ rfl (Nat.le_of_ble_eq_true rfl) dX6_presses2_25 ?_
    refine rg_if_eq (pc := 28) (tgt := 53) C dX6_presses2_28 (by decide) (fun c5 => ?_) (fun c5 => ?_)
    · replace hf := ra_t hf c5
      exact ih2 _ _ _ hf
    · replace hf := ra_f hf c5
      refine rg_aload_n (pc := 31) C 0 rfl rfl dX6_presses2_31 ?_
      refine rg_get (pc := 32) C 134 6 13 kd_134 (by decide) rfl inlX6 (by decide) wd_609 rfl dX6_presses2_32 ?_
      refine rg_bipush (pc := 35) (v := 13) C dX6_presses2_35 (by decide) ?_
      refine rg_iload_n (pc := 37) C 2 rfl rfl dX6_presses2_37 ?_
      refine rg_iadd (pc := 38) C dX6_presses2_38 ?_
      obtain ⟨g6, hf⟩ := ra_gd hf
      refine rg_iald (pc := 39) (j := (ra_ix (13 + v2))) C 140 kd_140 rfl g6 dX6_presses2_39 ?_
      refine rg_if_ne (pc := 40) (tgt := 53) C dX6_presses2_40 (by decide) (fun c7 => ?_) (fun c7 => ?_)
      · replace hf := ra_f hf c7
        exact ih2 _ _ _ hf
      · replace hf := ra_t hf c7
        refine rg_aload_n (pc := 43) C 0 rfl rfl dX6_presses2_43 ?_
        refine rg_get (pc := 44) C 134 6 13 kd_134 (by decide) rfl inlX6 (by decide) wd_609 rfl dX6_presses2_44 ?_
        refine rg_bipush (pc := 47) (v := 13) C dX6_presses2_47 (by decide) ?_
        refine rg_iload_n (pc := 49) C 2 rfl rfl dX6_presses2_49 ?_
        refine rg_iadd (pc := 50) C dX6_presses2_50 ?_
        refine rg_iconst (pc := 51) (v := 1) C dX6_presses2_51 (by decide) ?_
        refine rg_iast (pc := 52) (j := (ra_ix (13 + v2))) C 140 kd_140 rfl g6 dX6_presses2_52 ?_
        exact ih2 _ _ _ hf
set_option maxHeartbeats 4000000 in
theorem tX6_presses2_2 {Z : ra_Z} {r : Int32} {w1 : ra_W} (C : ra_C Z cX6_presses2 3 RX6 1 22) (hQ : ra_QV Z r w1) (hr : (zmt Z).sig.returnType = none) (k : Nat) (n : Nat) (ih1 : pX6_presses2_1 Z r w1 k n) : pX6_presses2_2 Z r w1 k (n + 1) := by
  intro v1 v2 w hf
  rw [fX6_presses2_2] at hf
  refine rg_iinc (pc := 53) (v := (v2 + 1)) (lv' := [(0, .ref ((zG Z).1 134)), (1, .int v1), (2, .int (v2 + 1))]) C 2 rfl [1, 2, 0] (ra_ii (by decide)) rfl (by decide) dX6_presses2_53 ?_
  refine rg_goto (pc := 56) (tgt := 13) C dX6_presses2_56 (by decide) ?_
  exact ih1 _ _ _ hf
theorem tX6_presses2 {Z : ra_Z} {r : Int32} {w1 : ra_W} (C : ra_C Z cX6_presses2 3 RX6 1 22) (hQ : ra_QV Z r w1) (hr : (zmt Z).sig.returnType = none) (k : Nat) : ∀ n : Nat, pX6_presses2_0 Z r w1 k n ∧ pX6_presses2_1 Z r w1 k n ∧ pX6_presses2_2 Z r w1 k n := by
  intro n
  induction n with
  | zero => exact ⟨(fun _ _ _ h => by cases h), (fun _ _ _ h => by cases h), (fun _ _ _ h => by cases h)⟩
  | succ n ih =>
    obtain ⟨ih0, ih1, ih2⟩ := ih
    exact ⟨tX6_presses2_0 C hQ hr k n ih1, tX6_presses2_1 C hQ hr k n ih2, tX6_presses2_2 C hQ hr k n ih1⟩
theorem kX6_presses2 (l : Launch) (G : ra_G) (hj : ra_inj G) (k : Nat) (v1 : Int32) (w : ra_W) (r : Int32) (w1 : ra_W) (h : FX6_presses2 k v1 w = some (r, w1)) : ra_MV l G yX6_presses2 cX6_presses2 3 none 1 22 [.ref (G.1 134), .int v1] w r w1 :=
  ra_entryV (own := RX6) (by decide) rfl (Nat.le_of_ble_eq_true rfl) hj (fun Z hl hG C hQ hr => by subst hl; subst hG; exact (tX6_presses2 C hQ hr k k).1 _ _ _ h)
theorem ysX6_presses2 : ra_YV yX6_presses2 cX6_presses2 3 none 1 RX6 := ⟨⟨wd_7, wd_855, by decide, by decide, by decide⟩, wd_854, wp_46⟩
/-- TrunkRadioModel.lasts -/
def fX6_lasts (k : Nat) : Nat → Nat → Int32 → Int32 → Int32 → Int32 → ra_W → Option (Int32 × ra_W)
  | 0, _, _, _, _, _, _ => none
  | n + 1, L, v1, v2, v3, s0, w => match L with
    | 0 => fX6_lasts k n 1 0 0 0 0 w
    | 1 => if 60 < v1 then (some ((-9), w)) else (fX6_lasts k n 2 v1 0 0 0 w)
    | 2 => if (w 136 0) ≤ v3 then (if v2 = 0 then (some (v1, w)) else (ra_bind (FX6_goes k 140 w) (fun _ w4 => fX6_lasts k n 1 (v1 + 1) 0 0 0 w4))) else (if v2 = 0 then (if ra_in (13 + v3) 41 then ra_bind (FX6_in k (w 140 (ra_ix (13 + v3))) 1 3 w) (fun r8 w9 => if r8 = 0 then (fX6_lasts k n 4 v1 0 v3 0 w9) else (fX6_lasts k n 3 v1 0 v3 0 w9)) else none) else (fX6_lasts k n 3 v1 0 v3 0 w))
    | 3 => fX6_lasts k n 4 v1 0 v3 1 w
    | _ => fX6_lasts k n 2 v1 s0 (v3 + 1) 0 w
theorem fX6_lasts_0 (k : Nat) (n : Nat) (v1 : Int32) (v2 : Int32) (v3 : Int32) (s0 : Int32) (w : ra_W) : fX6_lasts k (n + 1) 0 v1 v2 v3 s0 w = (fX6_lasts k n 1 0 0 0 0 w) := rfl
theorem fX6_lasts_1 (k : Nat) (n : Nat) (v1 : Int32) (v2 : Int32) (v3 : Int32) (s0 : Int32) (w : ra_W) : fX6_lasts k (n + 1) 1 v1 v2 v3 s0 w = (if 60 < v1 then (some ((-9), w)) else (fX6_lasts k n 2 v1 0 0 0 w)) := rfl
theorem fX6_lasts_2 (k : Nat) (n : Nat) (v1 : Int32) (v2 : Int32) (v3 : Int32) (s0 : Int32) (w : ra_W) : fX6_lasts k (n + 1) 2 v1 v2 v3 s0 w = (if (w 136 0) ≤ v3 then (if v2 = 0 then (some (v1, w)) else (ra_bind (FX6_goes k 140 w) (fun _ w4 => fX6_lasts k n 1 (v1 + 1) 0 0 0 w4))) else (if v2 = 0 then (if ra_in (13 + v3) 41 then ra_bind (FX6_in k (w 140 (ra_ix (13 + v3))) 1 3 w) (fun r8 w9 => if r8 = 0 then (fX6_lasts k n 4 v1 0 v3 0 w9) else (fX6_lasts k n 3 v1 0 v3 0 w9)) else none) else (fX6_lasts k n 3 v1 0 v3 0 w))) := rfl
theorem fX6_lasts_3 (k : Nat) (n : Nat) (v1 : Int32) (v2 : Int32) (v3 : Int32) (s0 : Int32) (w : ra_W) : fX6_lasts k (n + 1) 3 v1 v2 v3 s0 w = (fX6_lasts k n 4 v1 0 v3 1 w) := rfl
theorem fX6_lasts_4 (k : Nat) (n : Nat) (v1 : Int32) (v2 : Int32) (v3 : Int32) (s0 : Int32) (w : ra_W) : fX6_lasts k (n + 1) 4 v1 v2 v3 s0 w = (fX6_lasts k n 2 v1 s0 (v3 + 1) 0 w) := rfl
def FX6_lasts (k : Nat)  (w : ra_W) : Option (Int32 × ra_W) := fX6_lasts k k 0 0 0 0 0 w
def pX6_lasts_0 (Z : ra_Z) (r : Int32) (w1 : ra_W) (k : Nat) (n : Nat) : Prop := ∀ (v1 : Int32) (v2 : Int32) (v3 : Int32) (s0 : Int32) (w : ra_W), fX6_lasts k n 0 v1 v2 v3 s0 w = some (r, w1) → ra_J Z 4 0 [(0, .ref ((zG Z).1 134))] [] w
def pX6_lasts_1 (Z : ra_Z) (r : Int32) (w1 : ra_W) (k : Nat) (n : Nat) : Prop := ∀ (v1 : Int32) (v2 : Int32) (v3 : Int32) (s0 : Int32) (w : ra_W), fX6_lasts k n 1 v1 v2 v3 s0 w = some (r, w1) → ra_J Z 4 2 [(0, .ref ((zG Z).1 134)), (1, .int v1)] [] w
def pX6_lasts_2 (Z : ra_Z) (r : Int32) (w1 : ra_W) (k : Nat) (n : Nat) : Prop := ∀ (v1 : Int32) (v2 : Int32) (v3 : Int32) (s0 : Int32) (w : ra_W), fX6_lasts k n 2 v1 v2 v3 s0 w = some (r, w1) → ra_J Z 4 12 [(0, .ref ((zG Z).1 134)), (1, .int v1), (2, .int v2), (3, .int v3)] [] w
def pX6_lasts_3 (Z : ra_Z) (r : Int32) (w1 : ra_W) (k : Nat) (n : Nat) : Prop := ∀ (v1 : Int32) (v2 : Int32) (v3 : Int32) (s0 : Int32) (w : ra_W), fX6_lasts k n 3 v1 v2 v3 s0 w = some (r, w1) → ra_J Z 4 43 [(0, .ref ((zG Z).1 134)), (1, .int v1), (3, .int v3)] [] w
def pX6_lasts_4 (Z : ra_Z) (r : Int32) (w1 : ra_W) (k : Nat) (n : Nat) : Prop := ∀ (v1 : Int32) (v2 : Int32) (v3 : Int32) (s0 : Int32) (w : ra_W), fX6_lasts k n 4 v1 v2 v3 s0 w = some (r, w1) → ra_J Z 4 48 [(0, .ref ((zG Z).1 134)), (1, .int v1), (3, .int v3)] [.int s0] w
set_option maxHeartbeats 4000000 in
theorem tX6_lasts_0 {Z : ra_Z} {r : Int32} {w1 : ra_W} (C : ra_C Z cX6_lasts 4 RX6 5 116) (hQ : ra_QI Z r w1) (hr : (zmt Z).sig.returnType = (some .int)) (k : Nat) (n : Nat) (ih1 : pX6_lasts_1 Z r w1 k n) : pX6_lasts_0 Z r w1 k (n + 1) := by
  intro v1 v2 v3 s0 w hf
  rw [fX6_lasts_0] at hf
  refine rg_iconst (pc := 0) (v := 0) C dX6_lasts_0 (by decide) ?_
  refine rg_istore_n (pc := 1) (lv' := [(0, .ref ((zG Z).1 134)), (1, .int 0)]) C [1, 0] rfl rfl (by decide) dX6_lasts_1 ?_
  exact ih1 _ _ _ _ _ hf
set_option maxHeartbeats 4000000 in
theorem tX6_lasts_1 {Z : ra_Z} {r : Int32} {w1 : ra_W} (C : ra_C Z cX6_lasts 4 RX6 5 116) (hQ : ra_QI Z r w1) (hr : (zmt Z).sig.returnType = (some .int)) (k : Nat) (n : Nat) (ih2 : pX6_lasts_2 Z r w1 k n) : pX6_lasts_1 Z r w1 k (n + 1) := by
  intro v1 v2 v3 s0 w hf
  rw [fX6_lasts_1] at hf
  refine rg_iload_n (pc := 2) C 1 rfl rfl dX6_lasts_2 ?_
  refine rg_bipush (pc := 3) (v := 60) C dX6_lasts_3 (by decide) ?_
  refine rg_icmp_gt (pc := 5) (tgt := 75) C dX6_lasts_5 (by decide) (fun c1 => ?_) (fun c1 => ?_)
  · replace hf := ra_t hf c1
    refine rg_bipush (pc := 75) (v := (-9)) C dX6_lasts_75 (by decide) ?_
    exact rg_iret (pc := 77) C hQ hr hf dX6_lasts_77
  · replace hf := ra_f hf c1
    refine rg_iconst (pc := 8) (v := 0) C dX6_lasts_8 (by decide) ?_
    refine rg_istore_n (pc := 9) (lv' := [(0, .ref ((zG Z).1 134)), (1, .int v1), (2, .int 0)]) C [1, 2, 0] rfl rfl (by decide) dX6_lasts_9 ?_
    refine rg_iconst (pc := 10) (v := 0) C dX6_lasts_10 (by decide) ?_
    refine rg_istore_n (pc := 11) (lv' := [(0, .ref ((zG Z).1 134)), (1, .int v1), (2, .int 0), (3, .int 0)]) C [1, 2, 3, 0] rfl rfl (by decide) dX6_lasts_11 ?_
    exact ih2 _ _ _ _ _ hf
set_option maxHeartbeats 4000000 in
theorem tX6_lasts_2 {Z : ra_Z} {r : Int32} {w1 : ra_W} (C : ra_C Z cX6_lasts 4 RX6 5 116) (hQ : ra_QI Z r w1) (hr : (zmt Z).sig.returnType = (some .int)) (k : Nat) (n : Nat) (ih1 : pX6_lasts_1 Z r w1 k n) (ih3 : pX6_lasts_3 Z r w1 k n) (ih4 : pX6_lasts_4 Z r w1 k n) : pX6_lasts_2 Z r w1 k (n + 1) := by
  intro v1 v2 v3 s0 w hf
  rw [fX6_lasts_2] at hf
  refine rg_iload_n (pc := 12) C 3 rfl rfl dX6_lasts_12 ?_
  refine rg_aload_n (pc := 13) C 0 rfl rfl dX6_lasts_13 ?_
  refine rg_get (pc := 14) C 134 6 9 kd_134 (by decide) rfl inlX6 (by decide) wd_605 rfl dX6_lasts_14 ?_
  refine rg_iconst (pc := 17) (v := 0) C dX6_lasts_17 (by decide) ?_
  refine rg_iald (pc := 18) (j := 0) C 136 kd_136 (by decide) (by decide) dX6_lasts_18 ?_
  refine rg_icmp_ge (pc := 19) (tgt := 55) C dX6_lasts_19 (by decide) (fun c1 => ?_) (fun c1 => ?_)
  · replace hf := ra_t hf c1
    refine rg_iload_n (pc := 55) C 2 rfl rfl dX6_lasts_55 ?_
    refine rg_if_ne (pc := 56) (tgt := 61) C dX6_lasts_56 (by decide) (fun c2 => ?_) (fun c2 => ?_)
    · replace hf := ra_f hf c2
      refine rg_aload_n (pc := 61) C 0 rfl rfl dX6_lasts_61 ?_
      refine rg_aload_n (pc := 62) C 0 rfl rfl dX6_lasts_62 ?_
      refine rg_get (pc := 63) C 134 6 13 kd_134 (by decide) rfl inlX6 (by decide) wd_609 rfl dX6_lasts_63 ?_
      obtain ⟨r3, w4, e5, hf⟩ := ra_bd hf
      refine rg_callVV (pc := 66) (As := [.ref ((zG Z).1 140)]) (st := []) C (kX6_goes (zl Z) (zG Z) C.hj k 140 kd_140 _ _ _ e5) kd_134 (by decide) rfl ysX6_goes rfl wd_727 ⟨Nat.le_of_ble_eq_true rfl, Nat.le_of_ble_eq_true rfl⟩ rfl (Nat.le_of_ble_eq_true rfl) dX6_lasts_66 ?_
      refine rg_iinc (pc := 69) (v := (v1 + 1)) (lv' := [(0, .ref ((zG Z).1 134)), (1, .int (v1 + 1)), (2, .int v2), (3, .int v3)]) C 1 rfl [1, 0, 2, 3] (ra_ii (by decide)) rfl (by decide) dX6_lasts_69 ?_
      refine rg_goto (pc := 72) (tgt := 2) C dX6_lasts_72 (by decide) ?_
      refine rg_sub [0, 1] rfl ?_
      exact ih1 _ _ _ _ _ hf
    · replace hf := ra_t hf c2
      refine rg_iload_n (pc := 59) C 1 rfl rfl dX6_lasts_59 ?_
      exact rg_iret (pc := 60) C hQ hr hf dX6_lasts_60
  · replace hf := ra_f hf c1
    refine rg_iload_n (pc := 22) C 2 rfl rfl dX6_lasts_22 ?_
    refine rg_if_ne (pc := 23) (tgt := 43) C dX6_lasts_23 (by decide) (fun c6 => ?_) (fun c6 => ?_)
    · replace hf := ra_f hf c6
      refine rg_sub [0, 1, 3] rfl ?_
      exact ih3 _ _ _ _ _ hf
    · replace hf := ra_t hf c6
      refine rg_aload_n (pc := 26) C 0 rfl rfl dX6_lasts_26 ?_
      refine rg_get (pc := 27) C 134 6 13 kd_134 (by decide) rfl inlX6 (by decide) wd_609 rfl dX6_lasts_27 ?_
      refine rg_bipush (pc := 30) (v := 13) C dX6_lasts_30 (by decide) ?_
      refine rg_iload_n (pc := 32) C 3 rfl rfl dX6_lasts_32 ?_
      refine rg_iadd (pc := 33) C dX6_lasts_33 ?_
      obtain ⟨g7, hf⟩ := ra_gd hf
      refine rg_iald (pc := 34) (j := (ra_ix (13 + v3))) C 140 kd_140 rfl g7 dX6_lasts_34 ?_
      refine rg_iconst (pc := 35) (v := 1) C dX6_lasts_35 (by decide) ?_
      refine rg_iconst (pc := 36) (v := 3) C dX6_lasts_36 (by decide) ?_
      obtain ⟨r8, w9, e10, hf⟩ := ra_bd hf
      refine rg_callSI (pc := 37) (As := [.int (w 140 (ra_ix (13 + v3))), .int 1, .int 3]) (st := []) C (kX6_in (zl Z) (zG Z) C.hj k _ _ _ _ _ _ e10) ysX6_in rfl wd_677 ⟨Nat.le_of_ble_eq_true rfl, Nat.le_of_ble_eq_true rfl⟩ rfl (Nat.le_of_ble_eq_true rfl) dX6_lasts_37 ?_
      refine rg_if_eq (pc := 40) (tgt := 47) C dX6_lasts_40 (by decide) (fun c11 => ?_) (fun c11 => ?_)
      · replace hf := ra_t hf c11
        refine rg_iconst (pc := 47) (v := 0) C dX6_lasts_47 (by decide) ?_
        refine rg_sub [0, 1, 3] rfl ?_
        exact ih4 _ _ _ _ _ hf
      · replace hf := ra_f hf c11
        refine rg_sub [0, 1, 3] rfl ?_
        exact ih3 _ _ _ _ _ hf
set_option maxHeartbeats 4000000 in
theorem tX6_lasts_3 {Z : ra_Z} {r : Int32} {w1 : ra_W} (C : ra_C Z cX6_lasts 4 RX6 5 116) (hQ : ra_QI Z r w1) (hr : (zmt Z).sig.returnType = (some .int)) (k : Nat) (n : Nat) (ih4 : pX6_lasts_4 Z r w1 k n) : pX6_lasts_3 Z r w1 k (n + 1) := by
  intro v1 v2 v3 s0 w hf
  rw [fX6_lasts_3] at hf
  refine rg_iconst (pc := 43) (v := 1) C dX6_lasts_43 (by decide) ?_
  refine rg_goto (pc := 44) (tgt := 48) C dX6_lasts_44 (by decide) ?_
  exact ih4 _ _ _ _ _ hf
set_option maxHeartbeats 4000000 in
theorem tX6_lasts_4 {Z : ra_Z} {r : Int32} {w1 : ra_W} (C : ra_C Z cX6_lasts 4 RX6 5 116) (hQ : ra_QI Z r w1) (hr : (zmt Z).sig.returnType = (some .int)) (k : Nat) (n : Nat) (ih2 : pX6_lasts_2 Z r w1 k n) : pX6_lasts_4 Z r w1 k (n + 1) := by
  intro v1 v2 v3 s0 w hf
  rw [fX6_lasts_4] at hf
  refine rg_istore_n (pc := 48) (lv' := [(0, .ref ((zG Z).1 134)), (1, .int v1), (2, .int s0), (3, .int v3)]) C [1, 2, 0, 3] rfl rfl (by decide) dX6_lasts_48 ?_
  refine rg_iinc (pc := 49) (v := (v3 + 1)) (lv' := [(0, .ref ((zG Z).1 134)), (1, .int v1), (2, .int s0), (3, .int (v3 + 1))]) C 3 rfl [1, 2, 3, 0] (ra_ii (by decide)) rfl (by decide) dX6_lasts_49 ?_
  refine rg_goto (pc := 52) (tgt := 12) C dX6_lasts_52 (by decide) ?_
  exact ih2 _ _ _ _ _ hf
theorem tX6_lasts {Z : ra_Z} {r : Int32} {w1 : ra_W} (C : ra_C Z cX6_lasts 4 RX6 5 116) (hQ : ra_QI Z r w1) (hr : (zmt Z).sig.returnType = (some .int)) (k : Nat) : ∀ n : Nat, pX6_lasts_0 Z r w1 k n ∧ pX6_lasts_1 Z r w1 k n ∧ pX6_lasts_2 Z r w1 k n ∧ pX6_lasts_3 Z r w1 k n ∧ pX6_lasts_4 Z r w1 k n := by
  intro n
  induction n with
  | zero => exact ⟨(fun _ _ _ _ _ h => by cases h), (fun _ _ _ _ _ h => by cases h), (fun _ _ _ _ _ h => by cases h), (fun _ _ _ _ _ h => by cases h), (fun _ _ _ _ _ h => by cases h)⟩
  | succ n ih =>
    obtain ⟨ih0, ih1, ih2, ih3, ih4⟩ := ih
    exact ⟨tX6_lasts_0 C hQ hr k n ih1, tX6_lasts_1 C hQ hr k n ih2, tX6_lasts_2 C hQ hr k n ih1 ih3 ih4, tX6_lasts_3 C hQ hr k n ih4, tX6_lasts_4 C hQ hr k n ih2⟩
theorem kX6_lasts (l : Launch) (G : ra_G) (hj : ra_inj G) (k : Nat)  (w : ra_W) (r : Int32) (w1 : ra_W) (h : FX6_lasts k  w = some (r, w1)) : ra_MI l G yX6_lasts cX6_lasts 4 (some .int) 5 116 [.ref (G.1 134)] w r w1 :=
  ra_entryI (own := RX6) (by decide) rfl (Nat.le_of_ble_eq_true rfl) hj (fun Z hl hG C hQ hr => by subst hl; subst hG; exact (tX6_lasts C hQ hr k k).1 _ _ _ _ _ h)
theorem ysX6_lasts : ra_YV yX6_lasts cX6_lasts 4 (some .int) 0 RX6 := ⟨⟨wd_7, wd_859, by decide, by decide, by decide⟩, wd_858, wp_47⟩
/-- TrunkRadioModel.enough -/
def fX6_enough (k : Nat) : Nat → Nat → Int32 → Int32 → Int32 → Int32 → Int32 → Int32 → Int32 → Int32 → Int32 → Int32 → ra_W → Option (Int32 × ra_W)
  | 0, _, _, _, _, _, _, _, _, _, _, _, _ => none
  | n + 1, L, v1, v2, v3, v4, v5, v6, v7, v8, s0, s1, w => match L with
    | 0 => ra_bind (FX6_freeAt k 139 0 w) (fun r1 w2 => ra_bind (FX6_freeAt k 139 1 w2) (fun r4 w5 => fX6_enough k n 1 v1 (w 136 3) (w 136 4) (-9) ((w 136 3) - r1) ((w 136 4) - r4) 3 0 0 0 w5))
    | 1 => if v7 ≤ 0 then (some (v4, (ra_st (ra_st w 136 3 v2) 136 4 v3))) else (if v5 ≤ v7 then (fX6_enough k n 2 v1 v2 v3 v4 v5 v6 v7 0 v7 3 w) else (fX6_enough k n 2 v1 v2 v3 v4 v5 v6 v7 0 v5 3 w))
    | 2 => if ra_in s1 19 then if v6 ≤ v7 then (fX6_enough k n 3 v1 v2 v3 v4 v5 v6 v7 0 v7 4 (ra_st w 136 (ra_ix s1) s0)) else (fX6_enough k n 3 v1 v2 v3 v4 v5 v6 v7 0 v6 4 (ra_st w 136 (ra_ix s1) s0)) else none
    | 3 => if ra_in s1 19 then ra_bind (FX6_presses2 k v1 (ra_st w 136 (ra_ix s1) s0)) (fun _ w3 => fX6_enough k n 4 v1 v2 v3 v4 v5 v6 v7 0 0 0 w3) else none
    | 4 => if 60 ≤ v8 then (if (w 140 5) = (w 139 5) then (fX6_enough k n 5 v1 v2 v3 0 v5 v6 v7 0 v7 0 w) else (fX6_enough k n 5 v1 v2 v3 0 v5 v6 v7 0 v4 0 w)) else (ra_bind (FX6_goes k 140 w) (fun _ w4 => fX6_enough k n 4 v1 v2 v3 v4 v5 v6 v7 (v8 + 1) 0 0 w4))
    | _ => fX6_enough k n 1 v1 v2 v3 s0 v5 v6 (v7 + (-1)) 0 0 0 w
theorem fX6_enough_0 (k : Nat) (n : Nat) (v1 : Int32) (v2 : Int32) (v3 : Int32) (v4 : Int32) (v5 : Int32) (v6 : Int32) (v7 : Int32) (v8 : Int32) (s0 : Int32) (s1 : Int32) (w : ra_W) : fX6_enough k (n + 1) 0 v1 v2 v3 v4 v5 v6 v7 v8 s0 s1 w = (ra_bind (FX6_freeAt k 139 0 w) (fun r1 w2 => ra_bind (FX6_freeAt k 139 1 w2) (fun r4 w5 => fX6_enough k n 1 v1 (w 136 3) (w 136 4) (-9) ((w 136 3) - r1) ((w 136 4) - r4) 3 0 0 0 w5))) := rfl
theorem fX6_enough_1 (k : Nat) (n : Nat) (v1 : Int32) (v2 : Int32) (v3 : Int32) (v4 : Int32) (v5 : Int32) (v6 : Int32) (v7 : Int32) (v8 : Int32) (s0 : Int32) (s1 : Int32) (w : ra_W) : fX6_enough k (n + 1) 1 v1 v2 v3 v4 v5 v6 v7 v8 s0 s1 w = (if v7 ≤ 0 then (some (v4, (ra_st (ra_st w 136 3 v2) 136 4 v3))) else (if v5 ≤ v7 then (fX6_enough k n 2 v1 v2 v3 v4 v5 v6 v7 0 v7 3 w) else (fX6_enough k n 2 v1 v2 v3 v4 v5 v6 v7 0 v5 3 w))) := rfl
theorem fX6_enough_2 (k : Nat) (n : Nat) (v1 : Int32) (v2 : Int32) (v3 : Int32) (v4 : Int32) (v5 : Int32) (v6 : Int32) (v7 : Int32) (v8 : Int32) (s0 : Int32) (s1 : Int32) (w : ra_W) : fX6_enough k (n + 1) 2 v1 v2 v3 v4 v5 v6 v7 v8 s0 s1 w = (if ra_in s1 19 then if v6 ≤ v7 then (fX6_enough k n 3 v1 v2 v3 v4 v5 v6 v7 0 v7 4 (ra_st w 136 (ra_ix s1) s0)) else (fX6_enough k n 3 v1 v2 v3 v4 v5 v6 v7 0 v6 4 (ra_st w 136 (ra_ix s1) s0)) else none) := rfl
theorem fX6_enough_3 (k : Nat) (n : Nat) (v1 : Int32) (v2 : Int32) (v3 : Int32) (v4 : Int32) (v5 : Int32) (v6 : Int32) (v7 : Int32) (v8 : Int32) (s0 : Int32) (s1 : Int32) (w : ra_W) : fX6_enough k (n + 1) 3 v1 v2 v3 v4 v5 v6 v7 v8 s0 s1 w = (if ra_in s1 19 then ra_bind (FX6_presses2 k v1 (ra_st w 136 (ra_ix s1) s0)) (fun _ w3 => fX6_enough k n 4 v1 v2 v3 v4 v5 v6 v7 0 0 0 w3) else none) := rfl
theorem fX6_enough_4 (k : Nat) (n : Nat) (v1 : Int32) (v2 : Int32) (v3 : Int32) (v4 : Int32) (v5 : Int32) (v6 : Int32) (v7 : Int32) (v8 : Int32) (s0 : Int32) (s1 : Int32) (w : ra_W) : fX6_enough k (n + 1) 4 v1 v2 v3 v4 v5 v6 v7 v8 s0 s1 w = (if 60 ≤ v8 then (if (w 140 5) = (w 139 5) then (fX6_enough k n 5 v1 v2 v3 0 v5 v6 v7 0 v7 0 w) else (fX6_enough k n 5 v1 v2 v3 0 v5 v6 v7 0 v4 0 w)) else (ra_bind (FX6_goes k 140 w) (fun _ w4 => fX6_enough k n 4 v1 v2 v3 v4 v5 v6 v7 (v8 + 1) 0 0 w4))) := rfl
theorem fX6_enough_5 (k : Nat) (n : Nat) (v1 : Int32) (v2 : Int32) (v3 : Int32) (v4 : Int32) (v5 : Int32) (v6 : Int32) (v7 : Int32) (v8 : Int32) (s0 : Int32) (s1 : Int32) (w : ra_W) : fX6_enough k (n + 1) 5 v1 v2 v3 v4 v5 v6 v7 v8 s0 s1 w = (fX6_enough k n 1 v1 v2 v3 s0 v5 v6 (v7 + (-1)) 0 0 0 w) := rfl
def FX6_enough (k : Nat) (v1 : Int32) (w : ra_W) : Option (Int32 × ra_W) := fX6_enough k k 0 v1 0 0 0 0 0 0 0 0 0 w
def pX6_enough_0 (Z : ra_Z) (r : Int32) (w1 : ra_W) (k : Nat) (n : Nat) : Prop := ∀ (v1 : Int32) (v2 : Int32) (v3 : Int32) (v4 : Int32) (v5 : Int32) (v6 : Int32) (v7 : Int32) (v8 : Int32) (s0 : Int32) (s1 : Int32) (w : ra_W), fX6_enough k n 0 v1 v2 v3 v4 v5 v6 v7 v8 s0 s1 w = some (r, w1) → ra_J Z 9 0 [(0, .ref ((zG Z).1 134)), (1, .int v1)] [] w
def pX6_enough_1 (Z : ra_Z) (r : Int32) (w1 : ra_W) (k : Nat) (n : Nat) : Prop := ∀ (v1 : Int32) (v2 : Int32) (v3 : Int32) (v4 : Int32) (v5 : Int32) (v6 : Int32) (v7 : Int32) (v8 : Int32) (s0 : Int32) (s1 : Int32) (w : ra_W), fX6_enough k n 1 v1 v2 v3 v4 v5 v6 v7 v8 s0 s1 w = some (r, w1) → ra_J Z 9 47 [(0, .ref ((zG Z).1 134)), (1, .int v1), (2, .int v2), (3, .int v3), (4, .int v4), (5, .int v5), (6, .int v6), (7, .int v7)] [] w
def pX6_enough_2 (Z : ra_Z) (r : Int32) (w1 : ra_W) (k : Nat) (n : Nat) : Prop := ∀ (v1 : Int32) (v2 : Int32) (v3 : Int32) (v4 : Int32) (v5 : Int32) (v6 : Int32) (v7 : Int32) (v8 : Int32) (s0 : Int32) (s1 : Int32) (w : ra_W), fX6_enough k n 2 v1 v2 v3 v4 v5 v6 v7 v8 s0 s1 w = some (r, w1) → ra_J Z 9 71 [(0, .ref ((zG Z).1 134)), (1, .int v1), (2, .int v2), (3, .int v3), (4, .int v4), (5, .int v5), (6, .int v6), (7, .int v7)] [.int s0, .int s1, .ref ((zG Z).1 136)] w
def pX6_enough_3 (Z : ra_Z) (r : Int32) (w1 : ra_W) (k : Nat) (n : Nat) : Prop := ∀ (v1 : Int32) (v2 : Int32) (v3 : Int32) (v4 : Int32) (v5 : Int32) (v6 : Int32) (v7 : Int32) (v8 : Int32) (s0 : Int32) (s1 : Int32) (w : ra_W), fX6_enough k n 3 v1 v2 v3 v4 v5 v6 v7 v8 s0 s1 w = some (r, w1) → ra_J Z 9 91 [(0, .ref ((zG Z).1 134)), (1, .int v1), (2, .int v2), (3, .int v3), (4, .int v4), (5, .int v5), (6, .int v6), (7, .int v7)] [.int s0, .int s1, .ref ((zG Z).1 136)] w
def pX6_enough_4 (Z : ra_Z) (r : Int32) (w1 : ra_W) (k : Nat) (n : Nat) : Prop := ∀ (v1 : Int32) (v2 : Int32) (v3 : Int32) (v4 : Int32) (v5 : Int32) (v6 : Int32) (v7 : Int32) (v8 : Int32) (s0 : Int32) (s1 : Int32) (w : ra_W), fX6_enough k n 4 v1 v2 v3 v4 v5 v6 v7 v8 s0 s1 w = some (r, w1) → ra_J Z 9 100 [(0, .ref ((zG Z).1 134)), (1, .int v1), (2, .int v2), (3, .int v3), (4, .int v4), (5, .int v5), (6, .int v6), (7, .int v7), (8, .int v8)] [] w
def pX6_enough_5 (Z : ra_Z) (r : Int32) (w1 : ra_W) (k : Nat) (n : Nat) : Prop := ∀ (v1 : Int32) (v2 : Int32) (v3 : Int32) (v4 : Int32) (v5 : Int32) (v6 : Int32) (v7 : Int32) (v8 : Int32) (s0 : Int32) (s1 : Int32) (w : ra_W), fX6_enough k n 5 v1 v2 v3 v4 v5 v6 v7 v8 s0 s1 w = some (r, w1) → ra_J Z 9 143 [(0, .ref ((zG Z).1 134)), (1, .int v1), (2, .int v2), (3, .int v3), (5, .int v5), (6, .int v6), (7, .int v7)] [.int s0] w
set_option maxHeartbeats 4000000 in
theorem tX6_enough_0 {Z : ra_Z} {r : Int32} {w1 : ra_W} (C : ra_C Z cX6_enough 9 RX6 5 116) (hQ : ra_QI Z r w1) (hr : (zmt Z).sig.returnType = (some .int)) (k : Nat) (n : Nat) (ih1 : pX6_enough_1 Z r w1 k n) : pX6_enough_0 Z r w1 k (n + 1) := by
  intro v1 v2 v3 v4 v5 v6 v7 v8 s0 s1 w hf
  rw [fX6_enough_0] at hf
  refine rg_aload_n (pc := 0) C 0 rfl rfl dX6_enough_0 ?_
  refine rg_get (pc := 1) C 134 6 9 kd_134 (by decide) rfl inlX6 (by decide) wd_605 rfl dX6_enough_1 ?_
  refine rg_iconst (pc := 4) (v := 3) C dX6_enough_4 (by decide) ?_
  refine rg_iald (pc := 5) (j := 3) C 136 kd_136 (by decide) (by decide) dX6_enough_5 ?_
  refine rg_istore_n (pc := 6) (lv' := [(0, .ref ((zG Z).1 134)), (1, .int v1), (2, .int (w 136 3))]) C [1, 2, 0] rfl rfl (by decide) dX6_enough_6 ?_
  refine rg_aload_n (pc := 7) C 0 rfl rfl dX6_enough_7 ?_
  refine rg_get (pc := 8) C 134 6 9 kd_134 (by decide) rfl inlX6 (by decide) wd_605 rfl dX6_enough_8 ?_
  refine rg_iconst (pc := 11) (v := 4) C dX6_enough_11 (by decide) ?_
  refine rg_iald (pc := 12) (j := 4) C 136 kd_136 (by decide) (by decide) dX6_enough_12 ?_
  refine rg_istore_n (pc := 13) (lv' := [(0, .ref ((zG Z).1 134)), (1, .int v1), (2, .int (w 136 3)), (3, .int (w 136 4))]) C [1, 2, 3, 0] rfl rfl (by decide) dX6_enough_13 ?_
  refine rg_bipush (pc := 14) (v := (-9)) C dX6_enough_14 (by decide) ?_
  refine rg_istore (pc := 16) (lv' := [(0, .ref ((zG Z).1 134)), (1, .int v1), (2, .int (w 136 3)), (3, .int (w 136 4)), (4, .int (-9))]) C [1, 2, 3, 4, 0] rfl (by decide) dX6_enough_16 ?_
  refine rg_iload_n (pc := 18) C 2 rfl rfl dX6_enough_18 ?_
  refine rg_aload_n (pc := 19) C 0 rfl rfl dX6_enough_19 ?_
  refine rg_aload_n (pc := 20) C 0 rfl rfl dX6_enough_20 ?_
  refine rg_get (pc := 21) C 134 6 12 kd_134 (by decide) rfl inlX6 (by decide) wd_608 rfl dX6_enough_21 ?_
  refine rg_iconst (pc := 24) (v := 0) C dX6_enough_24 (by decide) ?_
  obtain ⟨r1, w2, e3, hf⟩ := ra_bd hf
  refine rg_callVI (pc := 25) (As := [.ref ((zG Z).1 139), .int 0]) (st := [.int (w 136 3)]) C (kX6_freeAt (zl Z) (zG Z) C.hj k 139 kd_139 _ _ _ _ e3) kd_134 (by decide) rfl ysX6_freeAt rfl wd_780 ⟨Nat.le_of_ble_eq_true rfl, Nat.le_of_ble_eq_true rfl⟩ rfl (Nat.le_of_ble_eq_true rfl) dX6_enough_25 ?_
  refine rg_isub (pc := 28) C dX6_enough_28 ?_
  refine rg_istore (pc := 29) (lv' := [(0, .ref ((zG Z).1 134)), (1, .int v1), (2, .int (w 136 3)), (3, .int (w 136 4)), (4, .int (-9)), (5, .int ((w 136 3) - r1))]) C [1, 2, 3, 4, 5, 0] rfl (by decide) dX6_enough_29 ?_
  refine rg_iload_n (pc := 31) C 3 rfl rfl dX6_enough_31 ?_
  refine rg_aload_n (pc := 32) C 0 rfl rfl dX6_enough_32 ?_
  refine rg_aload_n (pc := 33) C 0 rfl rfl dX6_enough_33 ?_
  refine rg_get (pc := 34) C 134 6 12 kd_134 (by decide) rfl inlX6 (by decide) wd_608 rfl dX6_enough_34 ?_
  refine rg_iconst (pc := 37) (v := 1) C dX6_enough_37 (by decide) ?_
  obtain ⟨r4, w5, e6, hf⟩ := ra_bd hf
  refine rg_callVI (pc := 38) (As := [.ref ((zG Z).1 139), .int 1]) (st := [.int (w 136 4)]) C (kX6_freeAt (zl Z) (zG Z) C.hj k 139 kd_139 _ _ _ _ e6) kd_134 (by decide) rfl ysX6_freeAt rfl wd_780 ⟨Nat.le_of_ble_eq_true rfl, Nat.le_of_ble_eq_true rfl⟩ rfl (Nat.le_of_ble_eq_true rfl) dX6_enough_38 ?_
  refine rg_isub (pc := 41) C dX6_enough_41 ?_
  refine rg_istore (pc := 42) (lv' := [(0, .ref ((zG Z).1 134)), (1, .int v1), (2, .int (w 136 3)), (3, .int (w 136 4)), (4, .int (-9)), (5, .int ((w 136 3) - r1)), (6, .int ((w 136 4) - r4))]) C [1, 2, 3, 4, 5, 6, 0] rfl (by decide) dX6_enough_42 ?_
  refine rg_iconst (pc := 44) (v := 3) C dX6_enough_44 (by decide) ?_
  refine rg_istore (pc := 45) (lv' := [(0, .ref ((zG Z).1 134)), (1, .int v1), (2, .int (w 136 3)), (3, .int (w 136 4)), (4, .int (-9)), (5, .int ((w 136 3) - r1)), (6, .int ((w 136 4) - r4)), (7, .int 3)]) C [1, 2, 3, 4, 5, 6, 7, 0] rfl (by decide) dX6_enough_45 ?_
  exact ih1 _ _ _ _ _ _ _ _ _ _ _ hf
set_option maxHeartbeats 4000000 in
theorem tX6_enough_1 {Z : ra_Z} {r : Int32} {w1 : ra_W} (C : ra_C Z cX6_enough 9 RX6 5 116) (hQ : ra_QI Z r w1) (hr : (zmt Z).sig.returnType = (some .int)) (k : Nat) (n : Nat) (ih2 : pX6_enough_2 Z r w1 k n) : pX6_enough_1 Z r w1 k (n + 1) := by
  intro v1 v2 v3 v4 v5 v6 v7 v8 s0 s1 w hf
  rw [fX6_enough_1] at hf
  refine rg_iload (pc := 47) C 7 rfl dX6_enough_47 ?_
  refine rg_if_le (pc := 49) (tgt := 151) C dX6_enough_49 (by decide) (fun c1 => ?_) (fun c1 => ?_)
  · replace hf := ra_t hf c1
    refine rg_aload_n (pc := 151) C 0 rfl rfl dX6_enough_151 ?_
    refine rg_get (pc := 152) C 134 6 9 kd_134 (by decide) rfl inlX6 (by decide) wd_605 rfl dX6_enough_152 ?_
    refine rg_iconst (pc := 155) (v := 3) C dX6_enough_155 (by decide) ?_
    refine rg_iload_n (pc := 156) C 2 rfl rfl dX6_enough_156 ?_
    refine rg_iast (pc := 157) (j := 3) C 136 kd_136 (by decide) (by decide) dX6_enough_157 ?_
    refine rg_aload_n (pc := 158) C 0 rfl rfl dX6_enough_158 ?_
    refine rg_get (pc := 159) C 134 6 9 kd_134 (by decide) rfl inlX6 (by decide) wd_605 rfl dX6_enough_159 ?_
    refine rg_iconst (pc := 162) (v := 4) C dX6_enough_162 (by decide) ?_
    refine rg_iload_n (pc := 163) C 3 rfl rfl dX6_enough_163 ?_
    refine rg_iast (pc := 164) (j := 4) C 136 kd_136 (by decide) (by decide) dX6_enough_164 ?_
    refine rg_iload (pc := 165) C 4 rfl dX6_enough_165 ?_
    exact rg_iret (pc := 167) C hQ hr hf dX6_enough_167
  · replace hf := ra_f hf c1
    refine rg_aload_n (pc := 52) C 0 rfl rfl dX6_enough_52 ?_
    refine rg_get (pc := 53) C 134 6 9 kd_134 (by decide) rfl inlX6 (by decide) wd_605 rfl dX6_enough_53 ?_
    refine rg_iconst (pc := 56) (v := 3) C dX6_enough_56 (by decide) ?_
    refine rg_iload (pc := 57) C 5 rfl dX6_enough_57 ?_
    refine rg_iload (pc := 59) C 7 rfl dX6_enough_59 ?_
    refine rg_icmp_le (pc := 61) (tgt := 69) C dX6_enough_61 (by decide) (fun c2 => ?_) (fun c2 => ?_)
    · replace hf := ra_t hf c2
      refine rg_iload (pc := 69) C 7 rfl dX6_enough_69 ?_
      exact ih2 _ _ _ _ _ _ _ _ _ _ _ hf
    · replace hf := ra_f hf c2
      refine rg_iload (pc := 64) C 5 rfl dX6_enough_64 ?_
      refine rg_goto (pc := 66) (tgt := 71) C dX6_enough_66 (by decide) ?_
      exact ih2 _ _ _ _ _ _ _ _ _ _ _ hf
set_option maxHeartbeats 4000000 in
theorem tX6_enough_2 {Z : ra_Z} {r : Int32} {w1 : ra_W} (C : ra_C Z cX6_enough 9 RX6 5 116) (hQ : ra_QI Z r w1) (hr : (zmt Z).sig.returnType = (some .int)) (k : Nat) (n : Nat) (ih3 : pX6_enough_3 Z r w1 k n) : pX6_enough_2 Z r w1 k (n + 1) := by
  intro v1 v2 v3 v4 v5 v6 v7 v8 s0 s1 w hf
  rw [fX6_enough_2] at hf
  obtain ⟨g1, hf⟩ := ra_gd hf
  refine rg_iast (pc := 71) (j := (ra_ix s1)) C 136 kd_136 rfl g1 dX6_enough_71 ?_
  refine rg_aload_n (pc := 72) C 0 rfl rfl dX6_enough_72 ?_
  refine rg_get (pc := 73) C 134 6 9 kd_134 (by decide) rfl inlX6 (by decide) wd_605 rfl dX6_enough_73 ?_
  refine rg_iconst (pc := 76) (v := 4) C dX6_enough_76 (by decide) ?_
  refine rg_iload (pc := 77) C 6 rfl dX6_enough_77 ?_
  refine rg_iload (pc := 79) C 7 rfl dX6_enough_79 ?_
  refine rg_icmp_le (pc := 81) (tgt := 89) C dX6_enough_81 (by decide) (fun c2 => ?_) (fun c2 => ?_)
  · replace hf := ra_t hf c2
    refine rg_iload (pc := 89) C 7 rfl dX6_enough_89 ?_
    exact ih3 _ _ _ _ _ _ _ _ _ _ _ hf
  · replace hf := ra_f hf c2
    refine rg_iload (pc := 84) C 6 rfl dX6_enough_84 ?_
    refine rg_goto (pc := 86) (tgt := 91) C dX6_enough_86 (by decide) ?_
    exact ih3 _ _ _ _ _ _ _ _ _ _ _ hf
set_option maxHeartbeats 4000000 in
theorem tX6_enough_3 {Z : ra_Z} {r : Int32} {w1 : ra_W} (C : ra_C Z cX6_enough 9 RX6 5 116) (hQ : ra_QI Z r w1) (hr : (zmt Z).sig.returnType = (some .int)) (k : Nat) (n : Nat) (ih4 : pX6_enough_4 Z r w1 k n) : pX6_enough_3 Z r w1 k (n + 1) := by
  intro v1 v2 v3 v4 v5 v6 v7 v8 s0 s1 w hf
  rw [fX6_enough_3] at hf
  obtain ⟨g1, hf⟩ := ra_gd hf
  refine rg_iast (pc := 91) (j := (ra_ix s1)) C 136 kd_136 rfl g1 dX6_enough_91 ?_
  refine rg_aload_n (pc := 92) C 0 rfl rfl dX6_enough_92 ?_
  refine rg_iload_n (pc := 93) C 1 rfl rfl dX6_enough_93 ?_
  obtain ⟨r2, w3, e4, hf⟩ := ra_bd hf
  refine rg_callVV (pc := 94) (As := [.int v1]) (st := []) C (kX6_presses2 (zl Z) (zG Z) C.hj k _ _ _ _ e4) kd_134 (by decide) rfl ysX6_presses2 rfl wd_852 ⟨Nat.le_of_ble_eq_true rfl, Nat.le_of_ble_eq_true rfl⟩ rfl (Nat.le_of_ble_eq_true rfl) dX6_enough_94 ?_
  refine rg_iconst (pc := 97) (v := 0) C dX6_enough_97 (by decide) ?_
  refine rg_istore (pc := 98) (lv' := [(0, .ref ((zG Z).1 134)), (1, .int v1), (2, .int v2), (3, .int v3), (4, .int v4), (5, .int v5), (6, .int v6), (7, .int v7), (8, .int 0)]) C [1, 2, 3, 4, 5, 6, 7, 8, 0] rfl (by decide) dX6_enough_98 ?_
  exact ih4 _ _ _ _ _ _ _ _ _ _ _ hf
set_option maxHeartbeats 4000000 in
theorem tX6_enough_4 {Z : ra_Z} {r : Int32} {w1 : ra_W} (C : ra_C Z cX6_enough 9 RX6 5 116) (hQ : ra_QI Z r w1) (hr : (zmt Z).sig.returnType = (some .int)) (k : Nat) (n : Nat) (ih4 : pX6_enough_4 Z r w1 k n) (ih5 : pX6_enough_5 Z r w1 k n) : pX6_enough_4 Z r w1 k (n + 1) := by
  intro v1 v2 v3 v4 v5 v6 v7 v8 s0 s1 w hf
  rw [fX6_enough_4] at hf
  refine rg_iload (pc := 100) C 8 rfl dX6_enough_100 ?_
  refine rg_bipush (pc := 102) (v := 60) C dX6_enough_102 (by decide) ?_
  refine rg_icmp_ge (pc := 104) (tgt := 121) C dX6_enough_104 (by decide) (fun c1 => ?_) (fun c1 => ?_)
  · replace hf := ra_t hf c1
    refine rg_aload_n (pc := 121) C 0 rfl rfl dX6_enough_121 ?_
    refine rg_get (pc := 122) C 134 6 13 kd_134 (by decide) rfl inlX6 (by decide) wd_609 rfl dX6_enough_122 ?_
    refine rg_iconst (pc := 125) (v := 5) C dX6_enough_125 (by decide) ?_
    refine rg_iald (pc := 126) (j := 5) C 140 kd_140 (by decide) (by decide) dX6_enough_126 ?_
    refine rg_aload_n (pc := 127) C 0 rfl rfl dX6_enough_127 ?_
    refine rg_get (pc := 128) C 134 6 12 kd_134 (by decide) rfl inlX6 (by decide) wd_608 rfl dX6_enough_128 ?_
    refine rg_iconst (pc := 131) (v := 5) C dX6_enough_131 (by decide) ?_
    refine rg_iald (pc := 132) (j := 5) C 139 kd_139 (by decide) (by decide) dX6_enough_132 ?_
    refine rg_icmp_ne (pc := 133) (tgt := 141) C dX6_enough_133 (by decide) (fun c2 => ?_) (fun c2 => ?_)
    · replace hf := ra_f hf c2
      refine rg_iload (pc := 141) C 4 rfl dX6_enough_141 ?_
      refine rg_sub [0, 1, 2, 3, 5, 6, 7] rfl ?_
      exact ih5 _ _ _ _ _ _ _ _ _ _ _ hf
    · replace hf := ra_t hf c2
      refine rg_iload (pc := 136) C 7 rfl dX6_enough_136 ?_
      refine rg_goto (pc := 138) (tgt := 143) C dX6_enough_138 (by decide) ?_
      refine rg_sub [0, 1, 2, 3, 5, 6, 7] rfl ?_
      exact ih5 _ _ _ _ _ _ _ _ _ _ _ hf
  · replace hf := ra_f hf c1
    refine rg_aload_n (pc := 107) C 0 rfl rfl dX6_enough_107 ?_
    refine rg_aload_n (pc := 108) C 0 rfl rfl dX6_enough_108 ?_
    refine rg_get (pc := 109) C 134 6 13 kd_134 (by decide) rfl inlX6 (by decide) wd_609 rfl dX6_enough_109 ?_
    obtain ⟨r3, w4, e5, hf⟩ := ra_bd hf
    refine rg_callVV (pc := 112) (As := [.ref ((zG Z).1 140)]) (st := []) C (kX6_goes (zl Z) (zG Z) C.hj k 140 kd_140 _ _ _ e5) kd_134 (by decide) rfl ysX6_goes rfl wd_727 ⟨Nat.le_of_ble_eq_true rfl, Nat.le_of_ble_eq_true rfl⟩ rfl (Nat.le_of_ble_eq_true rfl) dX6_enough_112 ?_
    refine rg_iinc (pc := 115) (v := (v8 + 1)) (lv' := [(0, .ref ((zG Z).1 134)), (1, .int v1), (2, .int v2), (3, .int v3), (4, .int v4), (5, .int v5), (6, .int v6), (7, .int v7), (8, .int (v8 + 1))]) C 8 rfl [1, 2, 3, 4, 5, 6, 7, 8, 0] (ra_ii (by decide)) rfl (by decide) dX6_enough_115 ?_
    refine rg_goto (pc := 118) (tgt := 100) C dX6_enough_118 (by decide) ?_
    exact ih4 _ _ _ _ _ _ _ _ _ _ _ hf
set_option maxHeartbeats 4000000 in
theorem tX6_enough_5 {Z : ra_Z} {r : Int32} {w1 : ra_W} (C : ra_C Z cX6_enough 9 RX6 5 116) (hQ : ra_QI Z r w1) (hr : (zmt Z).sig.returnType = (some .int)) (k : Nat) (n : Nat) (ih1 : pX6_enough_1 Z r w1 k n) : pX6_enough_5 Z r w1 k (n + 1) := by
  intro v1 v2 v3 v4 v5 v6 v7 v8 s0 s1 w hf
  rw [fX6_enough_5] at hf
  refine rg_istore (pc := 143) (lv' := [(0, .ref ((zG Z).1 134)), (1, .int v1), (2, .int v2), (3, .int v3), (4, .int s0), (5, .int v5), (6, .int v6), (7, .int v7)]) C [1, 2, 3, 4, 0, 5, 6, 7] rfl (by decide) dX6_enough_143 ?_
  refine rg_iinc (pc := 145) (v := (v7 + (-1))) (lv' := [(0, .ref ((zG Z).1 134)), (1, .int v1), (2, .int v2), (3, .int v3), (4, .int s0), (5, .int v5), (6, .int v6), (7, .int (v7 + (-1)))]) C 7 rfl [1, 2, 3, 4, 5, 6, 7, 0] (ra_ii (by decide)) rfl (by decide) dX6_enough_145 ?_
  refine rg_goto (pc := 148) (tgt := 47) C dX6_enough_148 (by decide) ?_
  exact ih1 _ _ _ _ _ _ _ _ _ _ _ hf
theorem tX6_enough {Z : ra_Z} {r : Int32} {w1 : ra_W} (C : ra_C Z cX6_enough 9 RX6 5 116) (hQ : ra_QI Z r w1) (hr : (zmt Z).sig.returnType = (some .int)) (k : Nat) : ∀ n : Nat, pX6_enough_0 Z r w1 k n ∧ pX6_enough_1 Z r w1 k n ∧ pX6_enough_2 Z r w1 k n ∧ pX6_enough_3 Z r w1 k n ∧ pX6_enough_4 Z r w1 k n ∧ pX6_enough_5 Z r w1 k n := by
  intro n
  induction n with
  | zero => exact ⟨(fun _ _ _ _ _ _ _ _ _ _ _ h => by cases h), (fun _ _ _ _ _ _ _ _ _ _ _ h => by cases h), (fun _ _ _ _ _ _ _ _ _ _ _ h => by cases h), (fun _ _ _ _ _ _ _ _ _ _ _ h => by cases h), (fun _ _ _ _ _ _ _ _ _ _ _ h => by cases h), (fun _ _ _ _ _ _ _ _ _ _ _ h => by cases h)⟩
  | succ n ih =>
    obtain ⟨ih0, ih1, ih2, ih3, ih4, ih5⟩ := ih
    exact ⟨tX6_enough_0 C hQ hr k n ih1, tX6_enough_1 C hQ hr k n ih2, tX6_enough_2 C hQ hr k n ih3, tX6_enough_3 C hQ hr k n ih4, tX6_enough_4 C hQ hr k n ih4 ih5, tX6_enough_5 C hQ hr k n ih1⟩
theorem kX6_enough (l : Launch) (G : ra_G) (hj : ra_inj G) (k : Nat) (v1 : Int32) (w : ra_W) (r : Int32) (w1 : ra_W) (h : FX6_enough k v1 w = some (r, w1)) : ra_MI l G yX6_enough cX6_enough 9 (some .int) 5 116 [.ref (G.1 134), .int v1] w r w1 :=
  ra_entryI (own := RX6) (by decide) rfl (Nat.le_of_ble_eq_true rfl) hj (fun Z hl hG C hQ hr => by subst hl; subst hG; exact (tX6_enough C hQ hr k k).1 _ _ _ _ _ _ _ _ _ _ _ h)
theorem ysX6_enough : ra_YV yX6_enough cX6_enough 9 (some .int) 1 RX6 := ⟨⟨wd_7, wd_851, by decide, by decide, by decide⟩, wd_850, wp_45⟩
/-- TrunkRadioModel.wave -/
def fX6_wave (k : Nat) : Nat → Nat → Int32 → Int32 → ra_W → Option (Int32 × ra_W)
  | 0, _, _, _, _ => none
  | n + 1, L, v1, v2, w => match L with
    | _ => if v1 < 0 then (some ((-1), (ra_st w 134 0 0))) else (if (1 <<< (((ra_st w 134 0 0) 136 0) &&& 31)) ≤ v1 then (some ((-1), (ra_st w 134 0 0))) else (ra_bind (FX6_in k v2 0 1 (ra_st w 134 0 0)) (fun r3 w4 => if r3 = 0 then (some ((-1), w4)) else (if v2 = 1 then (ra_bind (FX6_enough k v1 w4) (fun r14 w15 => some (r14, w15))) else (ra_bind (FX6_presses2 k v1 w4) (fun _ w9 => ra_bind (FX6_lasts k w9) (fun r11 w12 => some (r11, w12))))))))
theorem fX6_wave_0 (k : Nat) (n : Nat) (v1 : Int32) (v2 : Int32) (w : ra_W) : fX6_wave k (n + 1) 0 v1 v2 w = (if v1 < 0 then (some ((-1), (ra_st w 134 0 0))) else (if (1 <<< (((ra_st w 134 0 0) 136 0) &&& 31)) ≤ v1 then (some ((-1), (ra_st w 134 0 0))) else (ra_bind (FX6_in k v2 0 1 (ra_st w 134 0 0)) (fun r3 w4 => if r3 = 0 then (some ((-1), w4)) else (if v2 = 1 then (ra_bind (FX6_enough k v1 w4) (fun r14 w15 => some (r14, w15))) else (ra_bind (FX6_presses2 k v1 w4) (fun _ w9 => ra_bind (FX6_lasts k w9) (fun r11 w12 => some (r11, w12))))))))) := rfl
def FX6_wave (k : Nat) (v1 : Int32) (v2 : Int32) (w : ra_W) : Option (Int32 × ra_W) := fX6_wave k k 0 v1 v2 w
def pX6_wave_0 (Z : ra_Z) (r : Int32) (w1 : ra_W) (k : Nat) (n : Nat) : Prop := ∀ (v1 : Int32) (v2 : Int32) (w : ra_W), fX6_wave k n 0 v1 v2 w = some (r, w1) → ra_J Z 3 0 [(0, .ref ((zG Z).1 134)), (1, .int v1), (2, .int v2)] [] w
set_option maxHeartbeats 4000000 in
theorem tX6_wave_0 {Z : ra_Z} {r : Int32} {w1 : ra_W} (C : ra_C Z cX6_wave 3 RX6 6 144) (hQ : ra_QI Z r w1) (hr : (zmt Z).sig.returnType = (some .int)) (k : Nat) (n : Nat) : pX6_wave_0 Z r w1 k (n + 1) := by
  intro v1 v2 w hf
  rw [fX6_wave_0] at hf
  refine rg_aload_n (pc := 0) C 0 rfl rfl dX6_wave_0 ?_
  refine rg_iconst (pc := 1) (v := 0) C dX6_wave_1 (by decide) ?_
  refine rg_put (pc := 2) C 134 6 0 kd_134 (by decide) rfl inlX6 tyX6 tyX6_ok nmX6 (by decide) wd_596 rfl rfl rfl (Nat.le_of_ble_eq_true rfl) rfl dX6_wave_2 ?_
  refine rg_iload_n (pc := 5) C 1 rfl rfl dX6_wave_5 ?_
  refine rg_if_lt (pc := 6) (tgt := 30) C dX6_wave_6 (by decide) (fun c1 => ?_) (fun c1 => ?_)
  · replace hf := ra_t hf c1
    refine rg_iconst (pc := 30) (v := (-1)) C dX6_wave_30 (by decide) ?_
    exact rg_iret (pc := 31) C hQ hr hf dX6_wave_31
  · replace hf := ra_f hf c1
    refine rg_iload_n (pc := 9) C 1 rfl rfl dX6_wave_9 ?_
    refine rg_iconst (pc := 10) (v := 1) C dX6_wave_10 (by decide) ?_
    refine rg_aload_n (pc := 11) C 0 rfl rfl dX6_wave_11 ?_
    refine rg_get (pc := 12) C 134 6 9 kd_134 (by decide) rfl inlX6 (by decide) wd_605 rfl dX6_wave_12 ?_
    refine rg_iconst (pc := 15) (v := 0) C dX6_wave_15 (by decide) ?_
    refine rg_iald (pc := 16) (j := 0) C 136 kd_136 (by decide) (by decide) dX6_wave_16 ?_
    refine rg_ishl (pc := 17) C dX6_wave_17 ?_
    refine rg_icmp_ge (pc := 18) (tgt := 30) C dX6_wave_18 (by decide) (fun c2 => ?_) (fun c2 => ?_)
    · replace hf := ra_t hf c2
      refine rg_iconst (pc := 30) (v := (-1)) C dX6_wave_30 (by decide) ?_
      exact rg_iret (pc := 31) C hQ hr hf dX6_wave_31
    · replace hf := ra_f hf c2
      refine rg_iload_n (pc := 21) C 2 rfl rfl dX6_wave_21 ?_
      refine rg_iconst (pc := 22) (v := 0) C dX6_wave_22 (by decide) ?_
      refine rg_iconst (pc := 23) (v := 1) C dX6_wave_23 (by decide) ?_
      obtain ⟨r3, w4, e5, hf⟩ := ra_bd hf
      refine rg_callSI (pc := 24) (As := [.int v2, .int 0, .int 1]) (st := []) C (kX6_in (zl Z) (zG Z) C.hj k _ _ _ _ _ _ e5) ysX6_in rfl wd_677 ⟨Nat.le_of_ble_eq_true rfl, Nat.le_of_ble_eq_true rfl⟩ rfl (Nat.le_of_ble_eq_true rfl) dX6_wave_24 ?_
      refine rg_if_ne (pc := 27) (tgt := 32) C dX6_wave_27 (by decide) (fun c6 => ?_) (fun c6 => ?_)
      · replace hf := ra_f hf c6
        refine rg_iload_n (pc := 32) C 2 rfl rfl dX6_wave_32 ?_
        refine rg_iconst (pc := 33) (v := 1) C dX6_wave_33 (by decide) ?_
        refine rg_icmp_ne (pc := 34) (tgt := 43) C dX6_wave_34 (by decide) (fun c7 => ?_) (fun c7 => ?_)
        · replace hf := ra_f hf c7
          refine rg_aload_n (pc := 43) C 0 rfl rfl dX6_wave_43 ?_
          refine rg_iload_n (pc := 44) C 1 rfl rfl dX6_wave_44 ?_
          obtain ⟨r8, w9, e10, hf⟩ := ra_bd hf
          refine rg_callVV (pc := 45) (As := [.int v1]) (st := []) C (kX6_presses2 (zl Z) (zG Z) C.hj k _ _ _ _ e10) kd_134 (by decide) rfl ysX6_presses2 rfl wd_852 ⟨Nat.le_of_ble_eq_true rfl, Nat.le_of_ble_eq_true rfl⟩ rfl (Nat.le_of_ble_eq_true rfl) dX6_wave_45 ?_
          refine rg_aload_n (pc := 48) C 0 rfl rfl dX6_wave_48 ?_
          obtain ⟨r11, w12, e13, hf⟩ := ra_bd hf
          refine rg_callVI (pc := 49) (As := []) (st := []) C (kX6_lasts (zl Z) (zG Z) C.hj k _ _ _ e13) kd_134 (by decide) rfl ysX6_lasts rfl wd_856 ⟨Nat.le_of_ble_eq_true rfl, Nat.le_of_ble_eq_true rfl⟩ rfl (Nat.le_of_ble_eq_true rfl) dX6_wave_49 ?_
          exact rg_iret (pc := 52) C hQ hr hf dX6_wave_52
        · replace hf := ra_t hf c7
          refine rg_aload_n (pc := 37) C 0 rfl rfl dX6_wave_37 ?_
          refine rg_iload_n (pc := 38) C 1 rfl rfl dX6_wave_38 ?_
          obtain ⟨r14, w15, e16, hf⟩ := ra_bd hf
          refine rg_callVI (pc := 39) (As := [.int v1]) (st := []) C (kX6_enough (zl Z) (zG Z) C.hj k _ _ _ _ e16) kd_134 (by decide) rfl ysX6_enough rfl wd_848 ⟨Nat.le_of_ble_eq_true rfl, Nat.le_of_ble_eq_true rfl⟩ rfl (Nat.le_of_ble_eq_true rfl) dX6_wave_39 ?_
          exact rg_iret (pc := 42) C hQ hr hf dX6_wave_42
      · replace hf := ra_t hf c6
        refine rg_iconst (pc := 30) (v := (-1)) C dX6_wave_30 (by decide) ?_
        exact rg_iret (pc := 31) C hQ hr hf dX6_wave_31
theorem tX6_wave {Z : ra_Z} {r : Int32} {w1 : ra_W} (C : ra_C Z cX6_wave 3 RX6 6 144) (hQ : ra_QI Z r w1) (hr : (zmt Z).sig.returnType = (some .int)) (k : Nat) : ∀ n : Nat, pX6_wave_0 Z r w1 k n := by
  intro n
  induction n with
  | zero => exact (fun _ _ _ h => by cases h)
  | succ n ih => exact tX6_wave_0 C hQ hr k n
theorem kX6_wave (l : Launch) (G : ra_G) (hj : ra_inj G) (k : Nat) (v1 : Int32) (v2 : Int32) (w : ra_W) (r : Int32) (w1 : ra_W) (h : FX6_wave k v1 v2 w = some (r, w1)) : ra_MI l G yX6_wave cX6_wave 3 (some .int) 6 144 [.ref (G.1 134), .int v1, .int v2] w r w1 :=
  ra_entryI (own := RX6) (by decide) rfl (Nat.le_of_ble_eq_true rfl) hj (fun Z hl hG C hQ hr => by subst hl; subst hG; exact (tX6_wave C hQ hr k k) _ _ _ h)
theorem ysX6_wave : ra_YV yX6_wave cX6_wave 3 (some .int) 2 RX6 := ⟨⟨wd_7, wd_847, by decide, by decide, by decide⟩, wd_845, wd_846⟩
/-- TrunkRadioModel.gcd -/
def fX6_gcd (k : Nat) : Nat → Nat → Int32 → Int32 → Int32 → Int32 → ra_W → Option (Int32 × ra_W)
  | 0, _, _, _, _, _, _ => none
  | n + 1, L, v0, v1, v2, v3, w => match L with
    | 0 => fX6_gcd k n 1 0 0 v0 v1 w
    | _ => if v3 = 0 then (some (v2, w)) else (if ¬ v3 = 0 then fX6_gcd k n 1 0 0 v3 (v2 - v2 / v3 * v3) w else none)
theorem fX6_gcd_0 (k : Nat) (n : Nat) (v0 : Int32) (v1 : Int32) (v2 : Int32) (v3 : Int32) (w : ra_W) : fX6_gcd k (n + 1) 0 v0 v1 v2 v3 w = (fX6_gcd k n 1 0 0 v0 v1 w) := rfl
theorem fX6_gcd_1 (k : Nat) (n : Nat) (v0 : Int32) (v1 : Int32) (v2 : Int32) (v3 : Int32) (w : ra_W) : fX6_gcd k (n + 1) 1 v0 v1 v2 v3 w = (if v3 = 0 then (some (v2, w)) else (if ¬ v3 = 0 then fX6_gcd k n 1 0 0 v3 (v2 - v2 / v3 * v3) w else none)) := rfl
def FX6_gcd (k : Nat) (v0 : Int32) (v1 : Int32) (w : ra_W) : Option (Int32 × ra_W) := fX6_gcd k k 0 v0 v1 0 0 w
def pX6_gcd_0 (Z : ra_Z) (r : Int32) (w1 : ra_W) (k : Nat) (n : Nat) : Prop := ∀ (v0 : Int32) (v1 : Int32) (v2 : Int32) (v3 : Int32) (w : ra_W), fX6_gcd k n 0 v0 v1 v2 v3 w = some (r, w1) → ra_J Z 5 0 [(0, .int v0), (1, .int v1)] [] w
def pX6_gcd_1 (Z : ra_Z) (r : Int32) (w1 : ra_W) (k : Nat) (n : Nat) : Prop := ∀ (v0 : Int32) (v1 : Int32) (v2 : Int32) (v3 : Int32) (w : ra_W), fX6_gcd k n 1 v0 v1 v2 v3 w = some (r, w1) → ra_J Z 5 4 [(2, .int v2), (3, .int v3)] [] w
set_option maxHeartbeats 4000000 in
theorem tX6_gcd_0 {Z : ra_Z} {r : Int32} {w1 : ra_W} (C : ra_C Z cX6_gcd 5 RX6 0 0) (hQ : ra_QI Z r w1) (hr : (zmt Z).sig.returnType = (some .int)) (k : Nat) (n : Nat) (ih1 : pX6_gcd_1 Z r w1 k n) : pX6_gcd_0 Z r w1 k (n + 1) := by
  intro v0 v1 v2 v3 w hf
  rw [fX6_gcd_0] at hf
  refine rg_iload_n (pc := 0) C 0 rfl rfl dX6_gcd_0 ?_
  refine rg_istore_n (pc := 1) (lv' := [(0, .int v0), (1, .int v1), (2, .int v0)]) C [1, 2, 0] rfl rfl (by decide) dX6_gcd_1 ?_
  refine rg_iload_n (pc := 2) C 1 rfl rfl dX6_gcd_2 ?_
  refine rg_istore_n (pc := 3) (lv' := [(0, .int v0), (1, .int v1), (2, .int v0), (3, .int v1)]) C [1, 2, 3, 0] rfl rfl (by decide) dX6_gcd_3 ?_
  refine rg_sub [2, 3] rfl ?_
  exact ih1 _ _ _ _ _ hf
set_option maxHeartbeats 4000000 in
theorem tX6_gcd_1 {Z : ra_Z} {r : Int32} {w1 : ra_W} (C : ra_C Z cX6_gcd 5 RX6 0 0) (hQ : ra_QI Z r w1) (hr : (zmt Z).sig.returnType = (some .int)) (k : Nat) (n : Nat) (ih1 : pX6_gcd_1 Z r w1 k n) : pX6_gcd_1 Z r w1 k (n + 1) := by
  intro v0 v1 v2 v3 w hf
  rw [fX6_gcd_1] at hf
  refine rg_iload_n (pc := 4) C 1 rfl rfl dX6_gcd_4 ?_
  refine rg_if_eq (pc := 5) (tgt := 21) C dX6_gcd_5 (by decide) (fun c1 => ?_) (fun c1 => ?_)
  · replace hf := ra_t hf c1
    refine rg_iload_n (pc := 21) C 0 rfl rfl dX6_gcd_21 ?_
    exact rg_iret (pc := 22) C hQ hr hf dX6_gcd_22
  · replace hf := ra_f hf c1
    refine rg_iload_n (pc := 8) C 0 rfl rfl dX6_gcd_8 ?_
    refine rg_iload_n (pc := 9) C 1 rfl rfl dX6_gcd_9 ?_
    obtain ⟨g2, hf⟩ := ra_gd hf
    refine rg_irem (pc := 10) C g2 dX6_gcd_10 ?_
    refine rg_istore (pc := 11) (lv' := [(2, .int v2), (3, .int v3), (4, .int (v2 - v2 / v3 * v3))]) C [1, 2, 0] rfl (by decide) dX6_gcd_11 ?_
    refine rg_iload_n (pc := 13) C 1 rfl rfl dX6_gcd_13 ?_
    refine rg_istore_n (pc := 14) (lv' := [(2, .int v3), (3, .int v3), (4, .int (v2 - v2 / v3 * v3))]) C [0, 1, 2] rfl rfl (by decide) dX6_gcd_14 ?_
    refine rg_iload (pc := 15) C 2 rfl dX6_gcd_15 ?_
    refine rg_istore_n (pc := 17) (lv' := [(2, .int v3), (3, .int (v2 - v2 / v3 * v3)), (4, .int (v2 - v2 / v3 * v3))]) C [1, 0, 2] rfl rfl (by decide) dX6_gcd_17 ?_
    refine rg_goto (pc := 18) (tgt := 4) C dX6_gcd_18 (by decide) ?_
    refine rg_sub [0, 1] rfl ?_
    exact ih1 _ _ _ _ _ hf
theorem tX6_gcd {Z : ra_Z} {r : Int32} {w1 : ra_W} (C : ra_C Z cX6_gcd 5 RX6 0 0) (hQ : ra_QI Z r w1) (hr : (zmt Z).sig.returnType = (some .int)) (k : Nat) : ∀ n : Nat, pX6_gcd_0 Z r w1 k n ∧ pX6_gcd_1 Z r w1 k n := by
  intro n
  induction n with
  | zero => exact ⟨(fun _ _ _ _ _ h => by cases h), (fun _ _ _ _ _ h => by cases h)⟩
  | succ n ih =>
    obtain ⟨ih0, ih1⟩ := ih
    exact ⟨tX6_gcd_0 C hQ hr k n ih1, tX6_gcd_1 C hQ hr k n ih1⟩
theorem kX6_gcd (l : Launch) (G : ra_G) (hj : ra_inj G) (k : Nat) (v0 : Int32) (v1 : Int32) (w : ra_W) (r : Int32) (w1 : ra_W) (h : FX6_gcd k v0 v1 w = some (r, w1)) : ra_MI l G yX6_gcd cX6_gcd 5 (some .int) 0 0 [.int v0, .int v1] w r w1 :=
  ra_entryI (own := RX6) (by decide) rfl (Nat.le_of_ble_eq_true rfl) hj (fun Z hl hG C hQ hr => by subst hl; subst hG; exact (tX6_gcd C hQ hr k k).1 _ _ _ _ _ h)
theorem ysX6_gcd : ra_YS yX6_gcd cX6_gcd 5 (some .int) 2 := ⟨⟨wd_7, wd_866, by decide, by decide, by decide⟩, wd_865⟩
