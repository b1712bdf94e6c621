theorem ri_nm {Z : ra_Z} {nL pc : Nat} {lv : List (Nat × Value)} {st : List Value} {ws ws' : va_W} {cs sl cs' sl' : Nat} (e : ws = ws') (e1 : cs = cs') (e2 : sl = sl') (k : ra_I Z nL pc lv st ws' cs' sl') : ra_I Z nL pc lv st ws cs sl := by subst e; subst e1; subst e2; exact k
def pwX2_beginAnew (G : ra_G) (h0 : Nat) (p1 : Nat) (p2 : Nat) (p3 : Nat) (p4 : Nat) : va_W → Prop := fun w1 => w1 = [(h0, .inr (2, [.int 0, .int 4, .int 8, .ref p1, .ref p2, .ref p3, .ref p4])), (p1, .inl (G.2.2.1, 2, .inl (upd (upd (fun _ => 0) 0 2) 1 2)))]
set_option maxHeartbeats 4000000 in
set_option maxRecDepth 100000 in
theorem kNX2_beginAnew (l : Launch) (G : ra_G) (h0 : Nat) (p1 : Nat) (p2 : Nat) (p3 : Nat) (p4 : Nat) : ra_MN l G yX2_beginAnew cX2_beginAnew 1 1 30 0 0 [.ref h0] [(h0, .inr (2, [.int 0, .int 0, .int 0, .ref p1, .ref p2, .ref p3, .ref p4])), (p1, .inl (G.2.2.1, 2, .inl (fun _ => 0)))] (pwX2_beginAnew G h0 p1 p2 p3 p4) := by
  refine ra_entryN (own := RX2) (by decide) rfl (Nat.le_of_ble_eq_true rfl) ?_
  intro Z hl hG C hQ hr hin
  subst hl; subst hG
  refine ri_aload_n (pc := 0) C 0 rfl rfl dX2_beginAnew_0 ?_
  refine ri_iconst (pc := 1) (v := 0) C dX2_beginAnew_1 (by decide) ?_
  refine ri_put (pc := 2) (ws' := [(h0, .inr (2, [.int 0, .int 0, .int 0, .ref p1, .ref p2, .ref p3, .ref p4])), (p1, .inl ((zG Z).2.2.1, 2, .inl (fun _ => 0)))]) C 0 2 0 rfl rfl inlX2 tyX2 tyX2_ok nmX2 (by decide) wd_65 rfl rfl rfl (Nat.le_of_ble_eq_true rfl) rfl dX2_beginAnew_2 ?_
  refine ri_aload_n (pc := 5) C 0 rfl rfl dX2_beginAnew_5 ?_
  refine ri_iconst (pc := 6) (v := 4) C dX2_beginAnew_6 (by decide) ?_
  refine ri_put (pc := 7) (ws' := [(h0, .inr (2, [.int 0, .int 4, .int 0, .ref p1, .ref p2, .ref p3, .ref p4])), (p1, .inl ((zG Z).2.2.1, 2, .inl (fun _ => 0)))]) C 0 2 1 rfl rfl inlX2 tyX2 tyX2_ok nmX2 (by decide) wd_70 rfl rfl rfl (Nat.le_of_ble_eq_true rfl) rfl dX2_beginAnew_7 ?_
  refine ri_aload_n (pc := 10) C 0 rfl rfl dX2_beginAnew_10 ?_
  refine ri_bipush (pc := 11) (v := 8) C dX2_beginAnew_11 (by decide) ?_
  refine ri_put (pc := 13) (ws' := [(h0, .inr (2, [.int 0, .int 4, .int 8, .ref p1, .ref p2, .ref p3, .ref p4])), (p1, .inl ((zG Z).2.2.1, 2, .inl (fun _ => 0)))]) C 0 2 2 rfl rfl inlX2 tyX2 tyX2_ok nmX2 (by decide) wd_74 rfl rfl rfl (Nat.le_of_ble_eq_true rfl) rfl dX2_beginAnew_13 ?_
  refine ri_aload_n (pc := 16) C 0 rfl rfl dX2_beginAnew_16 ?_
  refine ri_get (pc := 17) C 0 2 3 rfl rfl inlX2 (by decide) wd_78 rfl dX2_beginAnew_17 ?_
  refine ri_iconst (pc := 20) (v := 0) C dX2_beginAnew_20 (by decide) ?_
  refine ri_iconst (pc := 21) (v := 2) C dX2_beginAnew_21 (by decide) ?_
  refine ri_iast (pc := 22) (j := 0) (ws' := [(h0, .inr (2, [.int 0, .int 4, .int 8, .ref p1, .ref p2, .ref p3, .ref p4])), (p1, .inl ((zG Z).2.2.1, 2, .inl (upd (fun _ => 0) 0 2)))]) C 1 rfl (by decide) (by decide) rfl dX2_beginAnew_22 ?_
  refine ri_aload_n (pc := 23) C 0 rfl rfl dX2_beginAnew_23 ?_
  refine ri_get (pc := 24) C 0 2 3 rfl rfl inlX2 (by decide) wd_78 rfl dX2_beginAnew_24 ?_
  refine ri_iconst (pc := 27) (v := 1) C dX2_beginAnew_27 (by decide) ?_
  refine ri_iconst (pc := 28) (v := 2) C dX2_beginAnew_28 (by decide) ?_
  refine ri_iast (pc := 29) (j := 1) (ws' := [(h0, .inr (2, [.int 0, .int 4, .int 8, .ref p1, .ref p2, .ref p3, .ref p4])), (p1, .inl ((zG Z).2.2.1, 2, .inl (upd (upd (fun _ => 0) 0 2) 1 2)))]) C 1 rfl (by decide) (by decide) rfl dX2_beginAnew_29 ?_
  exact ri_vret (pc := 30) C hQ hr rfl ⟨Nat.le_of_ble_eq_true rfl, Nat.le_of_ble_eq_true rfl⟩ dX2_beginAnew_30
def pwX0_init (G : ra_G) (h0 : Nat) : va_W → Prop := fun w1 => ∃ q1 q2 : Nat, w1 = [(h0, .inr (0, [.ref q1, .ref q2])), (q1, .inl (G.2.2.1, 7, .inl (fun _ => 0))), (q2, .inl (G.2.2.1, 7, .inl (fun _ => 0)))]
set_option maxHeartbeats 4000000 in
set_option maxRecDepth 100000 in
theorem kX0_init (l : Launch) (G : ra_G) (h0 : Nat) : ra_MN l G yX0_init cX0_init 1 1 30 2 14 [.ref h0] [(h0, .inr (0, [.null, .null]))] (pwX0_init G h0) := by
  refine ra_entryN (own := RX0) (by decide) rfl (Nat.le_of_ble_eq_true rfl) ?_
  intro Z hl hG C hQ hr hin
  subst hl; subst hG
  refine ri_aload_n (pc := 0) C 0 rfl rfl dX0_init_0 ?_
  refine ri_obj (pc := 1) C wd_115 wd_17 wd_18 (by decide) (Nat.le_of_ble_eq_true rfl) dX0_init_1 ?_
  refine ri_aload_n (pc := 4) C 0 rfl rfl dX0_init_4 ?_
  refine ri_bipush (pc := 5) (v := 7) C dX0_init_5 (by decide) ?_
  refine ri_newa (pc := 7) (N' := 7) C wd_54 (by decide) (by decide) (by decide) (Nat.le_of_ble_eq_true rfl) (Nat.le_of_ble_eq_true rfl) dX0_init_7 (fun q1 => ?_)
  refine ri_nm (ws' := [(h0, .inr (0, [.null, .null])), (q1, .inl ((zG Z).2.2.1, 7, .inl (fun _ => 0)))]) (cs' := 1) (sl' := 7) rfl rfl rfl ?_
  refine ri_putF (pc := 9) (ws' := [(h0, .inr (0, [.ref q1, .null])), (q1, .inl ((zG Z).2.2.1, 7, .inl (fun _ => 0)))]) C hin 0 0 0 rfl rfl inlX0 tyX0 tyX0_ok nmX0 (by decide) wd_116 rfl rfl rfl rfl (Nat.le_of_ble_eq_true rfl) rfl dX0_init_9 ?_
  refine ri_aload_n (pc := 12) C 0 rfl rfl dX0_init_12 ?_
  refine ri_bipush (pc := 13) (v := 7) C dX0_init_13 (by decide) ?_
  refine ri_newa (pc := 15) (N' := 7) C wd_54 (by decide) (by decide) (by decide) (Nat.le_of_ble_eq_true rfl) (Nat.le_of_ble_eq_true rfl) dX0_init_15 (fun q2 => ?_)
  refine ri_nm (ws' := [(h0, .inr (0, [.ref q1, .null])), (q1, .inl ((zG Z).2.2.1, 7, .inl (fun _ => 0))), (q2, .inl ((zG Z).2.2.1, 7, .inl (fun _ => 0)))]) (cs' := 2) (sl' := 14) rfl rfl rfl ?_
  refine ri_putF (pc := 17) (ws' := [(h0, .inr (0, [.ref q1, .ref q2])), (q1, .inl ((zG Z).2.2.1, 7, .inl (fun _ => 0))), (q2, .inl ((zG Z).2.2.1, 7, .inl (fun _ => 0)))]) C hin 0 0 1 rfl rfl inlX0 tyX0 tyX0_ok nmX0 (by decide) wd_118 rfl rfl rfl rfl (Nat.le_of_ble_eq_true rfl) rfl dX0_init_17 ?_
  exact ri_vret (pc := 20) C hQ hr ⟨q1, q2, rfl⟩ ⟨Nat.le_of_ble_eq_true rfl, Nat.le_of_ble_eq_true rfl⟩ dX0_init_20
def pwX3_init (G : ra_G) (h0 : Nat) : va_W → Prop := fun w1 => ∃ q1 : Nat, w1 = [(h0, .inr (3, [.int 0, .ref q1, .int 0, .int 0, .int 0, .int 0, .int 0, .int 0, .int 0])), (q1, .inl (G.2.2.1, 80, .inl (fun _ => 0)))]
set_option maxHeartbeats 4000000 in
set_option maxRecDepth 100000 in
theorem kX3_init (l : Launch) (G : ra_G) (h0 : Nat) : ra_MN l G yX3_init cX3_init 1 1 30 1 80 [.ref h0] [(h0, .inr (3, [.int 0, .null, .int 0, .int 0, .int 0, .int 0, .int 0, .int 0, .int 0]))] (pwX3_init G h0) := by
  refine ra_entryN (own := RX3) (by decide) rfl (Nat.le_of_ble_eq_true rfl) ?_
  intro Z hl hG C hQ hr hin
  subst hl; subst hG
  refine ri_aload_n (pc := 0) C 0 rfl rfl dX3_init_0 ?_
  refine ri_obj (pc := 1) C wd_24 wd_17 wd_18 (by decide) (Nat.le_of_ble_eq_true rfl) dX3_init_1 ?_
  refine ri_aload_n (pc := 4) C 0 rfl rfl dX3_init_4 ?_
  refine ri_bipush (pc := 5) (v := 80) C dX3_init_5 (by decide) ?_
  refine ri_newa (pc := 7) (N' := 80) C wd_54 (by decide) (by decide) (by decide) (Nat.le_of_ble_eq_true rfl) (Nat.le_of_ble_eq_true rfl) dX3_init_7 (fun q1 => ?_)
  refine ri_nm (ws' := [(h0, .inr (3, [.int 0, .null, .int 0, .int 0, .int 0, .int 0, .int 0, .int 0, .int 0])), (q1, .inl ((zG Z).2.2.1, 80, .inl (fun _ => 0)))]) (cs' := 1) (sl' := 80) rfl rfl rfl ?_
  refine ri_putF (pc := 9) (ws' := [(h0, .inr (3, [.int 0, .ref q1, .int 0, .int 0, .int 0, .int 0, .int 0, .int 0, .int 0])), (q1, .inl ((zG Z).2.2.1, 80, .inl (fun _ => 0)))]) C hin 0 3 1 rfl rfl inlX3 tyX3 tyX3_ok nmX3 (by decide) wd_27 rfl rfl rfl rfl (Nat.le_of_ble_eq_true rfl) rfl dX3_init_9 ?_
  exact ri_vret (pc := 12) C hQ hr ⟨q1, rfl⟩ ⟨Nat.le_of_ble_eq_true rfl, Nat.le_of_ble_eq_true rfl⟩ dX3_init_12
def pwX4_init (G : ra_G) (h0 : Nat) : va_W → Prop := fun w1 => ∃ q1 q2 q3 q4 q5 q6 : Nat, w1 = [(h0, .inr (4, [.ref q1, .ref q2, .ref q3, .ref q4, .ref q5, .ref q6, .int 0, .int 0, .int 0, .int 0])), (q1, .inl (G.2.2.1, 7, .inl (fun _ => 0))), (q2, .inl (G.2.2.1, 7, .inl (fun _ => 0))), (q3, .inl (G.2.2.1, 7, .inl (fun _ => 0))), (q4, .inl (G.2.2.1, 7, .inl (fun _ => 0))), (q5, .inl (G.2.2.1, 7, .inl (fun _ => 0))), (q6, .inl (G.2.2.1, 2, .inl (upd (upd (fun _ => 0) 0 (-1)) 1 (-1))))]
set_option maxHeartbeats 4000000 in
set_option maxRecDepth 100000 in
theorem kX4_init (l : Launch) (G : ra_G) (h0 : Nat) : ra_MN l G yX4_init cX4_init 1 1 30 6 37 [.ref h0] [(h0, .inr (4, [.null, .null, .null, .null, .null, .null, .int 0, .int 0, .int 0, .int 0]))] (pwX4_init G h0) := by
  refine ra_entryN (own := RX4) (by decide) rfl (Nat.le_of_ble_eq_true rfl) ?_
  intro Z hl hG C hQ hr hin
  subst hl; subst hG
  refine ri_aload_n (pc := 0) C 0 rfl rfl dX4_init_0 ?_
  refine ri_obj (pc := 1) C wd_129 wd_17 wd_18 (by decide) (Nat.le_of_ble_eq_true rfl) dX4_init_1 ?_
  refine ri_aload_n (pc := 4) C 0 rfl rfl dX4_init_4 ?_
  refine ri_bipush (pc := 5) (v := 7) C dX4_init_5 (by decide) ?_
  refine ri_newa (pc := 7) (N' := 7) C wd_54 (by decide) (by decide) (by decide) (Nat.le_of_ble_eq_true rfl) (Nat.le_of_ble_eq_true rfl) dX4_init_7 (fun q1 => ?_)
  refine ri_nm (ws' := [(h0, .inr (4, [.null, .null, .null, .null, .null, .null, .int 0, .int 0, .int 0, .int 0])), (q1, .inl ((zG Z).2.2.1, 7, .inl (fun _ => 0)))]) (cs' := 1) (sl' := 7) rfl rfl rfl ?_
  refine ri_putF (pc := 9) (ws' := [(h0, .inr (4, [.ref q1, .null, .null, .null, .null, .null, .int 0, .int 0, .int 0, .int 0])), (q1, .inl ((zG Z).2.2.1, 7, .inl (fun _ => 0)))]) C hin 0 4 0 rfl rfl inlX4 tyX4 tyX4_ok nmX4 (by decide) wd_130 rfl rfl rfl rfl (Nat.le_of_ble_eq_true rfl) rfl dX4_init_9 ?_
  refine ri_aload_n (pc := 12) C 0 rfl rfl dX4_init_12 ?_
  refine ri_bipush (pc := 13) (v := 7) C dX4_init_13 (by decide) ?_
  refine ri_newa (pc := 15) (N' := 7) C wd_54 (by decide) (by decide) (by decide) (Nat.le_of_ble_eq_true rfl) (Nat.le_of_ble_eq_true rfl) dX4_init_15 (fun q2 => ?_)
  refine ri_nm (ws' := [(h0, .inr (4, [.ref q1, .null, .null, .null, .null, .null, .int 0, .int 0, .int 0, .int 0])), (q1, .inl ((zG Z).2.2.1, 7, .inl (fun _ => 0))), (q2, .inl ((zG Z).2.2.1, 7, .inl (fun _ => 0)))]) (cs' := 2) (sl' := 14) rfl rfl rfl ?_
  refine ri_putF (pc := 17) (ws' := [(h0, .inr (4, [.ref q1, .ref q2, .null, .null, .null, .null, .int 0, .int 0, .int 0, .int 0])), (q1, .inl ((zG Z).2.2.1, 7, .inl (fun _ => 0))), (q2, .inl ((zG Z).2.2.1, 7, .inl (fun _ => 0)))]) C hin 0 4 1 rfl rfl inlX4 tyX4 tyX4_ok nmX4 (by decide) wd_133 rfl rfl rfl rfl (Nat.le_of_ble_eq_true rfl) rfl dX4_init_17 ?_
  refine ri_aload_n (pc := 20) C 0 rfl rfl dX4_init_20 ?_
  refine ri_bipush (pc := 21) (v := 7) C dX4_init_21 (by decide) ?_
  refine ri_newa (pc := 23) (N' := 7) C wd_54 (by decide) (by decide) (by decide) (Nat.le_of_ble_eq_true rfl) (Nat.le_of_ble_eq_true rfl) dX4_init_23 (fun q3 => ?_)
  refine ri_nm (ws' := [(h0, .inr (4, [.ref q1, .ref q2, .null, .null, .null, .null, .int 0, .int 0, .int 0, .int 0])), (q1, .inl ((zG Z).2.2.1, 7, .inl (fun _ => 0))), (q2, .inl ((zG Z).2.2.1, 7, .inl (fun _ => 0))), (q3, .inl ((zG Z).2.2.1, 7, .inl (fun _ => 0)))]) (cs' := 3) (sl' := 21) rfl rfl rfl ?_
  refine ri_putF (pc := 25) (ws' := [(h0, .inr (4, [.ref q1, .ref q2, .ref q3, .null, .null, .null, .int 0, .int 0, .int 0, .int 0])), (q1, .inl ((zG Z).2.2.1, 7, .inl (fun _ => 0))), (q2, .inl ((zG Z).2.2.1, 7, .inl (fun _ => 0))), (q3, .inl ((zG Z).2.2.1, 7, .inl (fun _ => 0)))]) C hin 0 4 2 rfl rfl inlX4 tyX4 tyX4_ok nmX4 (by decide) wd_136 rfl rfl rfl rfl (Nat.le_of_ble_eq_true rfl) rfl dX4_init_25 ?_
  refine ri_aload_n (pc := 28) C 0 rfl rfl dX4_init_28 ?_
  refine ri_bipush (pc := 29) (v := 7) C dX4_init_29 (by decide) ?_
  refine ri_newa (pc := 31) (N' := 7) C wd_54 (by decide) (by decide) (by decide) (Nat.le_of_ble_eq_true rfl) (Nat.le_of_ble_eq_true rfl) dX4_init_31 (fun q4 => ?_)
  refine ri_nm (ws' := [(h0, .inr (4, [.ref q1, .ref q2, .ref q3, .null, .null, .null, .int 0, .int 0, .int 0, .int 0])), (q1, .inl ((zG Z).2.2.1, 7, .inl (fun _ => 0))), (q2, .inl ((zG Z).2.2.1, 7, .inl (fun _ => 0))), (q3, .inl ((zG Z).2.2.1, 7, .inl (fun _ => 0))), (q4, .inl ((zG Z).2.2.1, 7, .inl (fun _ => 0)))]) (cs' := 4) (sl' := 28) rfl rfl rfl ?_
  refine ri_putF (pc := 33) (ws' := [(h0, .inr (4, [.ref q1, .ref q2, .ref q3, .ref q4, .null, .null, .int 0, .int 0, .int 0, .int 0])), (q1, .inl ((zG Z).2.2.1, 7, .inl (fun _ => 0))), (q2, .inl ((zG Z).2.2.1, 7, .inl (fun _ => 0))), (q3, .inl ((zG Z).2.2.1, 7, .inl (fun _ => 0))), (q4, .inl ((zG Z).2.2.1, 7, .inl (fun _ => 0)))]) C hin 0 4 3 rfl rfl inlX4 tyX4 tyX4_ok nmX4 (by decide) wd_139 rfl rfl rfl rfl (Nat.le_of_ble_eq_true rfl) rfl dX4_init_33 ?_
  refine ri_aload_n (pc := 36) C 0 rfl rfl dX4_init_36 ?_
  refine ri_bipush (pc := 37) (v := 7) C dX4_init_37 (by decide) ?_
  refine ri_newa (pc := 39) (N' := 7) C wd_54 (by decide) (by decide) (by decide) (Nat.le_of_ble_eq_true rfl) (Nat.le_of_ble_eq_true rfl) dX4_init_39 (fun q5 => ?_)
  refine ri_nm (ws' := [(h0, .inr (4, [.ref q1, .ref q2, .ref q3, .ref q4, .null, .null, .int 0, .int 0, .int 0, .int 0])), (q1, .inl ((zG Z).2.2.1, 7, .inl (fun _ => 0))), (q2, .inl ((zG Z).2.2.1, 7, .inl (fun _ => 0))), (q3, .inl ((zG Z).2.2.1, 7, .inl (fun _ => 0))), (q4, .inl ((zG Z).2.2.1, 7, .inl (fun _ => 0))), (q5, .inl ((zG Z).2.2.1, 7, .inl (fun _ => 0)))]) (cs' := 5) (sl' := 35) rfl rfl rfl ?_
  refine ri_putF (pc := 41) (ws' := [(h0, .inr (4, [.ref q1, .ref q2, .ref q3, .ref q4, .ref q5, .null, .int 0, .int 0, .int 0, .int 0])), (q1, .inl ((zG Z).2.2.1, 7, .inl (fun _ => 0))), (q2, .inl ((zG Z).2.2.1, 7, .inl (fun _ => 0))), (q3, .inl ((zG Z).2.2.1, 7, .inl (fun _ => 0))), (q4, .inl ((zG Z).2.2.1, 7, .inl (fun _ => 0))), (q5, .inl ((zG Z).2.2.1, 7, .inl (fun _ => 0)))]) C hin 0 4 4 rfl rfl inlX4 tyX4 tyX4_ok nmX4 (by decide) wd_142 rfl rfl rfl rfl (Nat.le_of_ble_eq_true rfl) rfl dX4_init_41 ?_
  refine ri_aload_n (pc := 44) C 0 rfl rfl dX4_init_44 ?_
  refine ri_iconst (pc := 45) (v := 2) C dX4_init_45 (by decide) ?_
  refine ri_newa (pc := 46) (N' := 2) C wd_54 (by decide) (by decide) (by decide) (Nat.le_of_ble_eq_true rfl) (Nat.le_of_ble_eq_true rfl) dX4_init_46 (fun q6 => ?_)
  refine ri_nm (ws' := [(h0, .inr (4, [.ref q1, .ref q2, .ref q3, .ref q4, .ref q5, .null, .int 0, .int 0, .int 0, .int 0])), (q1, .inl ((zG Z).2.2.1, 7, .inl (fun _ => 0))), (q2, .inl ((zG Z).2.2.1, 7, .inl (fun _ => 0))), (q3, .inl ((zG Z).2.2.1, 7, .inl (fun _ => 0))), (q4, .inl ((zG Z).2.2.1, 7, .inl (fun _ => 0))), (q5, .inl ((zG Z).2.2.1, 7, .inl (fun _ => 0))), (q6, .inl ((zG Z).2.2.1, 2, .inl (fun _ => 0)))]) (cs' := 6) (sl' := 37) rfl rfl rfl ?_
  refine ri_putF (pc := 48) (ws' := [(h0, .inr (4, [.ref q1, .ref q2, .ref q3, .ref q4, .ref q5, .ref q6, .int 0, .int 0, .int 0, .int 0])), (q1, .inl ((zG Z).2.2.1, 7, .inl (fun _ => 0))), (q2, .inl ((zG Z).2.2.1, 7, .inl (fun _ => 0))), (q3, .inl ((zG Z).2.2.1, 7, .inl (fun _ => 0))), (q4, .inl ((zG Z).2.2.1, 7, .inl (fun _ => 0))), (q5, .inl ((zG Z).2.2.1, 7, .inl (fun _ => 0))), (q6, .inl ((zG Z).2.2.1, 2, .inl (fun _ => 0)))]) C hin 0 4 5 rfl rfl inlX4 tyX4 tyX4_ok nmX4 (by decide) wd_145 rfl rfl rfl rfl (Nat.le_of_ble_eq_true rfl) rfl dX4_init_48 ?_
  refine ri_aload_n (pc := 51) C 0 rfl rfl dX4_init_51 ?_
  refine ri_get (pc := 52) C 0 4 5 rfl rfl inlX4 (by decide) wd_145 rfl dX4_init_52 ?_
  refine ri_iconst (pc := 55) (v := 0) C dX4_init_55 (by decide) ?_
  refine ri_iconst (pc := 56) (v := (-1)) C dX4_init_56 (by decide) ?_
  refine ri_iast (pc := 57) (j := 0) (ws' := [(h0, .inr (4, [.ref q1, .ref q2, .ref q3, .ref q4, .ref q5, .ref q6, .int 0, .int 0, .int 0, .int 0])), (q1, .inl ((zG Z).2.2.1, 7, .inl (fun _ => 0))), (q2, .inl ((zG Z).2.2.1, 7, .inl (fun _ => 0))), (q3, .inl ((zG Z).2.2.1, 7, .inl (fun _ => 0))), (q4, .inl ((zG Z).2.2.1, 7, .inl (fun _ => 0))), (q5, .inl ((zG Z).2.2.1, 7, .inl (fun _ => 0))), (q6, .inl ((zG Z).2.2.1, 2, .inl (upd (fun _ => 0) 0 (-1))))]) C 6 rfl (by decide) (by decide) rfl dX4_init_57 ?_
  refine ri_aload_n (pc := 58) C 0 rfl rfl dX4_init_58 ?_
  refine ri_get (pc := 59) C 0 4 5 rfl rfl inlX4 (by decide) wd_145 rfl dX4_init_59 ?_
  refine ri_iconst (pc := 62) (v := 1) C dX4_init_62 (by decide) ?_
  refine ri_iconst (pc := 63) (v := (-1)) C dX4_init_63 (by decide) ?_
  refine ri_iast (pc := 64) (j := 1) (ws' := [(h0, .inr (4, [.ref q1, .ref q2, .ref q3, .ref q4, .ref q5, .ref q6, .int 0, .int 0, .int 0, .int 0])), (q1, .inl ((zG Z).2.2.1, 7, .inl (fun _ => 0))), (q2, .inl ((zG Z).2.2.1, 7, .inl (fun _ => 0))), (q3, .inl ((zG Z).2.2.1, 7, .inl (fun _ => 0))), (q4, .inl ((zG Z).2.2.1, 7, .inl (fun _ => 0))), (q5, .inl ((zG Z).2.2.1, 7, .inl (fun _ => 0))), (q6, .inl ((zG Z).2.2.1, 2, .inl (upd (upd (fun _ => 0) 0 (-1)) 1 (-1))))]) C 6 rfl (by decide) (by decide) rfl dX4_init_64 ?_
  exact ri_vret (pc := 65) C hQ hr ⟨q1, q2, q3, q4, q5, q6, rfl⟩ ⟨Nat.le_of_ble_eq_true rfl, Nat.le_of_ble_eq_true rfl⟩ dX4_init_65
def pwX2_init (G : ra_G) (h0 : Nat) : va_W → Prop := fun w1 => ∃ q1 q2 q3 q4 : Nat, w1 = [(q2, .inl (G.2.2.1, 7, .inl (fun _ => 0))), (q3, .inl (G.2.2.1, 7, .inl (fun _ => 0))), (q4, .inl (G.2.2.1, 7, .inl (fun _ => 0))), (h0, .inr (2, [.int 0, .int 4, .int 8, .ref q1, .ref q2, .ref q3, .ref q4])), (q1, .inl (G.2.2.1, 2, .inl (upd (upd (fun _ => 0) 0 2) 1 2)))]
set_option maxHeartbeats 4000000 in
set_option maxRecDepth 100000 in
theorem kX2_init (l : Launch) (G : ra_G) (h0 : Nat) : ra_MN l G yX2_init cX2_init 1 2 50 4 23 [.ref h0] [(h0, .inr (2, [.int 0, .int 0, .int 0, .null, .null, .null, .null]))] (pwX2_init G h0) := by
  refine ra_entryN (own := RX2) (by decide) rfl (Nat.le_of_ble_eq_true rfl) ?_
  intro Z hl hG C hQ hr hin
  subst hl; subst hG
  refine ri_aload_n (pc := 0) C 0 rfl rfl dX2_init_0 ?_
  refine ri_obj (pc := 1) C wd_60 wd_17 wd_18 (by decide) (Nat.le_of_ble_eq_true rfl) dX2_init_1 ?_
  refine ri_aload_n (pc := 4) C 0 rfl rfl dX2_init_4 ?_
  refine ri_iconst (pc := 5) (v := 2) C dX2_init_5 (by decide) ?_
  refine ri_newa (pc := 6) (N' := 2) C wd_54 (by decide) (by decide) (by decide) (Nat.le_of_ble_eq_true rfl) (Nat.le_of_ble_eq_true rfl) dX2_init_6 (fun q1 => ?_)
  refine ri_nm (ws' := [(h0, .inr (2, [.int 0, .int 0, .int 0, .null, .null, .null, .null])), (q1, .inl ((zG Z).2.2.1, 2, .inl (fun _ => 0)))]) (cs' := 1) (sl' := 2) rfl rfl rfl ?_
  refine ri_putF (pc := 8) (ws' := [(h0, .inr (2, [.int 0, .int 0, .int 0, .ref q1, .null, .null, .null])), (q1, .inl ((zG Z).2.2.1, 2, .inl (fun _ => 0)))]) C hin 0 2 3 rfl rfl inlX2 tyX2 tyX2_ok nmX2 (by decide) wd_78 rfl rfl rfl rfl (Nat.le_of_ble_eq_true rfl) rfl dX2_init_8 ?_
  refine ri_aload_n (pc := 11) C 0 rfl rfl dX2_init_11 ?_
  refine ri_bipush (pc := 12) (v := 7) C dX2_init_12 (by decide) ?_
  refine ri_newa (pc := 14) (N' := 7) C wd_54 (by decide) (by decide) (by decide) (Nat.le_of_ble_eq_true rfl) (Nat.le_of_ble_eq_true rfl) dX2_init_14 (fun q2 => ?_)
  refine ri_nm (ws' := [(h0, .inr (2, [.int 0, .int 0, .int 0, .ref q1, .null, .null, .null])), (q1, .inl ((zG Z).2.2.1, 2, .inl (fun _ => 0))), (q2, .inl ((zG Z).2.2.1, 7, .inl (fun _ => 0)))]) (cs' := 2) (sl' := 9) rfl rfl rfl ?_
  refine ri_putF (pc := 16) (ws' := [(h0, .inr (2, [.int 0, .int 0, .int 0, .ref q1, .ref q2, .null, .null])), (q1, .inl ((zG Z).2.2.1, 2, .inl (fun _ => 0))), (q2, .inl ((zG Z).2.2.1, 7, .inl (fun _ => 0)))]) C hin 0 2 4 rfl rfl inlX2 tyX2 tyX2_ok nmX2 (by decide) wd_83 rfl rfl rfl rfl (Nat.le_of_ble_eq_true rfl) rfl dX2_init_16 ?_
  refine ri_aload_n (pc := 19) C 0 rfl rfl dX2_init_19 ?_
  refine ri_bipush (pc := 20) (v := 7) C dX2_init_20 (by decide) ?_
  refine ri_newa (pc := 22) (N' := 7) C wd_54 (by decide) (by decide) (by decide) (Nat.le_of_ble_eq_true rfl) (Nat.le_of_ble_eq_true rfl) dX2_init_22 (fun q3 => ?_)
  refine ri_nm (ws' := [(h0, .inr (2, [.int 0, .int 0, .int 0, .ref q1, .ref q2, .null, .null])), (q1, .inl ((zG Z).2.2.1, 2, .inl (fun _ => 0))), (q2, .inl ((zG Z).2.2.1, 7, .inl (fun _ => 0))), (q3, .inl ((zG Z).2.2.1, 7, .inl (fun _ => 0)))]) (cs' := 3) (sl' := 16) rfl rfl rfl ?_
  refine ri_putF (pc := 24) (ws' := [(h0, .inr (2, [.int 0, .int 0, .int 0, .ref q1, .ref q2, .ref q3, .null])), (q1, .inl ((zG Z).2.2.1, 2, .inl (fun _ => 0))), (q2, .inl ((zG Z).2.2.1, 7, .inl (fun _ => 0))), (q3, .inl ((zG Z).2.2.1, 7, .inl (fun _ => 0)))]) C hin 0 2 5 rfl rfl inlX2 tyX2 tyX2_ok nmX2 (by decide) wd_86 rfl rfl rfl rfl (Nat.le_of_ble_eq_true rfl) rfl dX2_init_24 ?_
  refine ri_aload_n (pc := 27) C 0 rfl rfl dX2_init_27 ?_
  refine ri_bipush (pc := 28) (v := 7) C dX2_init_28 (by decide) ?_
  refine ri_newa (pc := 30) (N' := 7) C wd_54 (by decide) (by decide) (by decide) (Nat.le_of_ble_eq_true rfl) (Nat.le_of_ble_eq_true rfl) dX2_init_30 (fun q4 => ?_)
  refine ri_nm (ws' := [(h0, .inr (2, [.int 0, .int 0, .int 0, .ref q1, .ref q2, .ref q3, .null])), (q1, .inl ((zG Z).2.2.1, 2, .inl (fun _ => 0))), (q2, .inl ((zG Z).2.2.1, 7, .inl (fun _ => 0))), (q3, .inl ((zG Z).2.2.1, 7, .inl (fun _ => 0))), (q4, .inl ((zG Z).2.2.1, 7, .inl (fun _ => 0)))]) (cs' := 4) (sl' := 23) rfl rfl rfl ?_
  refine ri_putF (pc := 32) (ws' := [(h0, .inr (2, [.int 0, .int 0, .int 0, .ref q1, .ref q2, .ref q3, .ref q4])), (q1, .inl ((zG Z).2.2.1, 2, .inl (fun _ => 0))), (q2, .inl ((zG Z).2.2.1, 7, .inl (fun _ => 0))), (q3, .inl ((zG Z).2.2.1, 7, .inl (fun _ => 0))), (q4, .inl ((zG Z).2.2.1, 7, .inl (fun _ => 0)))]) C hin 0 2 6 rfl rfl inlX2 tyX2 tyX2_ok nmX2 (by decide) wd_91 rfl rfl rfl rfl (Nat.le_of_ble_eq_true rfl) rfl dX2_init_32 ?_
  refine ri_aload_n (pc := 35) C 0 rfl rfl dX2_init_35 ?_
  refine ri_callV (pc := 36) (wc := [(h0, .inr (2, [.int 0, .int 0, .int 0, .ref q1, .ref q2, .ref q3, .ref q4])), (q1, .inl ((zG Z).2.2.1, 2, .inl (fun _ => 0)))]) (wr := [(q2, .inl ((zG Z).2.2.1, 7, .inl (fun _ => 0))), (q3, .inl ((zG Z).2.2.1, 7, .inl (fun _ => 0))), (q4, .inl ((zG Z).2.2.1, 7, .inl (fun _ => 0)))]) C (kNX2_beginAnew (zl Z) (zG Z) h0 q1 q2 q3 q4) rfl rfl ⟨⟨wd_3, wd_64, by decide, by decide, by decide⟩, wd_62, wd_63⟩ wd_61 ⟨(Nat.le_of_ble_eq_true rfl), (Nat.le_of_ble_eq_true rfl)⟩ [0, 1] [2, 3, 4] rfl rfl (by decide +kernel) (by decide +kernel) (by decide +kernel) ⟨(Nat.le_of_ble_eq_true rfl), (Nat.le_of_ble_eq_true rfl)⟩ (Nat.le_of_ble_eq_true rfl) dX2_init_36 ?_
  intro w1 hp
  obtain ⟨rfl⟩ := hp
  refine ri_nm (ws' := [(q2, .inl ((zG Z).2.2.1, 7, .inl (fun _ => 0))), (q3, .inl ((zG Z).2.2.1, 7, .inl (fun _ => 0))), (q4, .inl ((zG Z).2.2.1, 7, .inl (fun _ => 0))), (h0, .inr (2, [.int 0, .int 4, .int 8, .ref q1, .ref q2, .ref q3, .ref q4])), (q1, .inl ((zG Z).2.2.1, 2, .inl (upd (upd (fun _ => 0) 0 2) 1 2)))]) (cs' := 4) (sl' := 23) rfl rfl rfl ?_
  exact ri_vret (pc := 39) C hQ hr ⟨q1, q2, q3, q4, rfl⟩ ⟨Nat.le_of_ble_eq_true rfl, Nat.le_of_ble_eq_true rfl⟩ dX2_init_39
