theorem ra_ax {X Y : va_W} {n i : Nat} {q : Nat × va_E} (hX : X.length = n) (h : Y[i]? = some q) : (X ++ Y)[n + i]? = some q := by
  rw [List.getElem?_append_right (by omega), hX, Nat.add_sub_cancel_left]; exact h
theorem ra_as {X Y Y' : va_W} {n i : Nat} {v : Nat × va_E} (hX : X.length = n) (h : Y.set i v = Y') : (X ++ Y).set (n + i) v = X ++ Y' := by
  rw [List.set_append_right _ _ (by omega), hX, Nat.add_sub_cancel_left, h]
theorem ra_aa {X Y Y' : va_W} {v : Nat × va_E} (h : Y ++ [v] = Y') : (X ++ Y) ++ [v] = X ++ Y' := by
  rw [List.append_assoc, h]
theorem ra_LX_len (G : ra_G) (ad : Nat → Nat) : (ra_LX G ad).length = 134 := by simp [ra_LX]
theorem ra_LX_get (G : ra_G) (ad : Nat → Nat) {k : Nat} (h : k < 134) : (ra_LX G ad)[k]? = some (ad k, ra_E (ad, G.2) k (ra_w0 k)) := by simp [ra_LX, h]
theorem ra_span : ∀ k : Fin 134, (ra_kd k.val).1 = 10 ∨ (ra_kd k.val = (12, 12) ∧ k.val = 31) ∨ (ra_kd k.val = (12, 2) ∧ k.val = 32) ∨ ((ra_kd k.val).1 = 0 ∧ k.val + 2 < 134) ∨ ((ra_kd k.val).1 = 1 ∧ k.val + 1 < 134) ∨ ((ra_kd k.val).1 = 2 ∧ k.val + 4 < 134) ∨ ((ra_kd k.val).1 = 3 ∧ k.val + 1 < 134) ∨ ((ra_kd k.val).1 = 4 ∧ k.val + 6 < 134) ∨ (ra_kd k.val).1 = 5 := by decide +kernel
theorem ra_at_ad {D : va_G} {g : va_G × ClassId × ClassId × ClassId} {ad ad' : Nat → Nat} {H : Heap} {k : Nat} {c : Nat → Int32} (h : ∀ j, j < 134 → ad' j = ad j) (hk : k < 134) (ha : va_at D vwCl (ad k, ra_E (ad, g) k c) H) : va_at D vwCl (ad' k, ra_E (ad', g) k c) H := by
  rw [h k hk]
  rcases ra_span ⟨k, hk⟩ with e | ⟨e, e2⟩ | ⟨e, e2⟩ | ⟨e, e2⟩ | ⟨e, e2⟩ | ⟨e, e2⟩ | ⟨e, e2⟩ | ⟨e, e2⟩ | e <;> dsimp only at e
  · have e3 : ra_E (ad', g) k c = ra_E (ad, g) k c := by simp only [ra_E, e, if_true]
    rw [e3]; exact ha
  · have e4 : k = 31 := e2
    rw [ra_ES e] at ha ⊢
    have ha : H[ad k]? = some (vp_cell g.2.2.2 (12, .inr (.inr (.inr (.inr (fun j => some (ad (ra_rs k j)))))))) := ha
    show H[ad k]? = some (vp_cell g.2.2.2 (12, .inr (.inr (.inr (.inr (fun j => some (ad' (ra_rs k j))))))))
    rw [ha, vp_cell_q, vp_cell_q]
    exact congrArg some (ra_arrV (fun j hj => by rw [h (ra_rs k j) (by rw [e4]; show 50 + 7 * j < 134; omega)]))
  · have e4 : k = 32 := e2
    rw [ra_ES e] at ha ⊢
    have ha : H[ad k]? = some (vp_cell g.2.2.2 (2, .inr (.inr (.inr (.inr (fun j => some (ad (ra_rs k j)))))))) := ha
    show H[ad k]? = some (vp_cell g.2.2.2 (2, .inr (.inr (.inr (.inr (fun j => some (ad' (ra_rs k j))))))))
    rw [ha, vp_cell_q, vp_cell_q]
    exact congrArg some (ra_arrV (fun j hj => by rw [h (ra_rs k j) (by rw [e4]; show 36 + 7 * j < 134; omega)]))
  · have e3 : ra_E (ad', g) k c = ra_E (ad, g) k c := by
      have e2 : k + 2 < 134 := e2
      simp only [ra_E, e, ra_fs, h (k + 1) (by omega), h (k + 2) e2]
      rfl
    rw [e3]; exact ha
  · have e3 : ra_E (ad', g) k c = ra_E (ad, g) k c := by
      have e2 : k + 1 < 134 := e2
      simp only [ra_E, e, ra_fs, h (k + 1) e2]
      rfl
    rw [e3]; exact ha
  · have e3 : ra_E (ad', g) k c = ra_E (ad, g) k c := by
      have e2 : k + 4 < 134 := e2
      simp only [ra_E, e, ra_fs, h (k + 1) (by omega), h (k + 2) (by omega), h (k + 3) (by omega), h (k + 4) e2]
      rfl
    rw [e3]; exact ha
  · have e3 : ra_E (ad', g) k c = ra_E (ad, g) k c := by
      have e2 : k + 1 < 134 := e2
      simp only [ra_E, e, ra_fs, h (k + 1) e2]
      rfl
    rw [e3]; exact ha
  · have e3 : ra_E (ad', g) k c = ra_E (ad, g) k c := by
      have e2 : k + 6 < 134 := e2
      simp only [ra_E, e, ra_fs, h (k + 1) (by omega), h (k + 2) (by omega), h (k + 3) (by omega), h (k + 4) (by omega), h (k + 5) (by omega), h (k + 6) e2]
      rfl
    rw [e3]; exact ha
  · have e3 : ra_E (ad', g) k c = ra_E (ad, g) k c := by
      simp only [ra_E, e, ra_fs, h 1 (by omega), h 3 (by omega), h 8 (by omega), h 13 (by omega), h 16 (by omega), h 23 (by omega), h 30 (by omega), h 32 (by omega), h 33 (by omega), h 34 (by omega), h 35 (by omega)]
      rfl
    rw [e3]; exact ha
/-- the context with other addresses and other counts -/
abbrev ra_Z2 (Z : ra_Z) (ad : Nat → Nat) (cs sl : Nat) : ra_Z := (zp Z, zl Z, ze Z, zR Z, zs Z, zm Z, zar Z, zbl Z, zmt Z, zc Z, zQ Z, (ad, (zG Z).2), zA Z, cs, sl)
theorem ra_CIC {Z : ra_Z} {cc : ByteArray} {nL : Nat} {own : String} {fr lo mc ms cs sl : Nat} {ad : Nat → Nat} {w : ra_W} (C : ra_CI Z cc nL own fr lo mc ms) (hD : va_D (zA Z) (ra_L (ad, (zG Z).2) w)) (hc : cs ≤ mc ∧ sl ≤ ms) : ra_C (ra_Z2 Z ad cs sl) cc nL own fr lo := by
  refine ⟨⟨C.hx, C.hb, C.hml, C.hown⟩, C.hts, C.hK, fun i j hi hj e => ?_, fun k hk => ?_, ⟨Nat.le_trans hc.1 C.hce.1, Nat.le_trans hc.2 C.hce.2⟩, C.hro, C.hlk⟩
  · exact hD.1 i j _ _ (ra_L_get _ _ hi) (ra_L_get _ _ hj) e
  · exact hD.2 k _ (ra_L_get _ _ hk)
theorem ra_IJ {Z : ra_Z} {cc : ByteArray} {nL pc : Nat} {own : String} {fr lo mc ms cs sl : Nat} {lv : List (Nat × Value)} {st : List Value} {ad : Nat → Nat} {w : ra_W} (C : ra_CI Z cc nL own fr lo mc ms) (hc : cs ≤ mc ∧ sl ≤ ms) (k : ra_C (ra_Z2 Z ad cs sl) cc nL own fr lo → ra_J (ra_Z2 Z ad cs sl) nL pc lv st w) : ra_I Z nL pc lv st (ra_L (ad, (zG Z).2) w) cs sl :=
  fun ls H locs hl hP hD hS => k (ra_CIC C hD hc) ls H locs hl hP hS
theorem ri_flatret {Z : ra_Z} {cc : ByteArray} {nL pc : Nat} {own : String} {fr lo mc ms cs sl : Nat} {lv : List (Nat × Value)} {ad : Nat → Nat} {w : ra_W} {Pw : va_W → Prop} (C : ra_CI Z cc nL own fr lo mc ms) (C2 : ra_C (ra_Z2 Z ad cs sl) cc nL own fr lo) (hQ : ra_QN Z Pw mc ms) (hr : (zmt Z).sig.returnType = none) (hp : Pw (ra_L (ad, (zG Z).2) w)) (hc : cs ≤ mc ∧ sl ≤ ms) (hd : decode cc pc = .ok (.return_, 1)) : ra_J (ra_Z2 Z ad cs sl) nL pc lv [] w := by
  intro ls H locs hl hP hS
  exact ri_vret (ws := ra_L (ad, (zG Z).2) w) (cs := cs) (sl := sl) C hQ hr hp hc hd ls H locs hl hP (C2.hD w) hS
def ra_a2 (ad : Nat → Nat) (Y : List Nat) : Nat → Nat := fun k => if k < 134 then ad k else Y.getD (k - 134) 0
theorem ra_flat {Z : ra_Z} {nL pc : Nat} {lv : List (Nat × Value)} {st : List Value} {cs sl : Nat} {ad : Nat → Nat} {Y : List Nat} {YY : va_W} (hY : ∀ i, i < 15 → YY[i]? = some (ra_a2 ad Y (134 + i), ra_E (ra_a2 ad Y, (zG Z).2) (134 + i) (ra_w0 (134 + i)))) (k : ra_I Z nL pc lv st (ra_L (ra_a2 ad Y, (zG Z).2) ra_w0) cs sl) : ra_I Z nL pc lv st (ra_LX (zG Z) ad ++ YY) cs sl := by
  intro ls H locs hl hP hD hS
  have ha : ∀ j, j < 134 → ra_a2 ad Y j = ad j := fun j hj => if_pos hj
  have at1 : ∀ j, j < 134 → (ra_LX (zG Z) ad ++ YY)[j]? = some (ad j, ra_E (ad, (zG Z).2) j (ra_w0 j)) := fun j hj => by
    rw [List.getElem?_append_left (by rw [ra_LX_len]; exact hj), ra_LX_get _ _ hj]
  have at2 : ∀ j, 134 ≤ j → j < 149 → (ra_LX (zG Z) ad ++ YY)[j]? = some (ra_a2 ad Y j, ra_E (ra_a2 ad Y, (zG Z).2) j (ra_w0 j)) := fun j h1 h2 => by
    have := ra_ax (X := ra_LX (zG Z) ad) (ra_LX_len _ _) (hY (j - 134) (by omega))
    rw [show 134 + (j - 134) = j by omega] at this
    exact this
  have at3 : ∀ j, j < 149 → ∃ q : Nat × va_E, (ra_LX (zG Z) ad ++ YY)[j]? = some q ∧ q.1 = ra_a2 ad Y j := fun j hj => by
    rcases Nat.lt_or_ge j 134 with h | h
    · exact ⟨_, at1 j h, (ha j h).symm⟩
    · exact ⟨_, at2 j h hj, rfl⟩
  refine k ls H locs hl (fun j q hq => ?_) ⟨fun i j p q hi hj e => ?_, fun j q hq => ?_⟩ hS
  · obtain ⟨hj, -⟩ := ra_L_some hq
    rw [ra_L_get _ _ hj] at hq
    cases hq
    rcases Nat.lt_or_ge j 134 with h | h
    · exact ra_at_ad ha h (hP j _ (at1 j h))
    · exact hP j _ (at2 j h hj)
  · obtain ⟨a1, a2⟩ := ra_L_some hi
    obtain ⟨b1, b2⟩ := ra_L_some hj
    obtain ⟨p', p1, p2⟩ := at3 i a1
    obtain ⟨q', q1, q2⟩ := at3 j b1
    refine hD.1 i j p' q' p1 q1 ?_
    rw [p2, q2]
    exact a2.symm.trans (e.trans b2)
  · obtain ⟨b1, b2⟩ := ra_L_some hq
    obtain ⟨q', q1, q2⟩ := at3 j b1
    rw [b2]
    show zA Z (ra_a2 ad Y j)
    rw [← q2]
    exact hD.2 j q' q1
def pwX6_init (G : ra_G) (ad : Nat → Nat) (h0 : Nat) (wb : ra_W) : va_W → Prop := fun w1 => ∃ ad2 : Nat → Nat, (∀ j, j < 134 → ad2 j = ad j) ∧ ad2 134 = h0 ∧ w1 = ra_L (ad2, G.2) wb
set_option maxHeartbeats 4000000 in
set_option maxRecDepth 100000 in
theorem kX6_init (l : Launch) (G : ra_G) (ad : Nat → Nat) (h0 k : Nat) (r1 r2 : Int32) (wa wb : ra_W) (e1 : FX6_begins k ra_w0 = some (r1, wa)) (e2 : FX6_settles k wa = some (r2, wb)) : ra_MN l G yX6_init cX6_init 1 2 43 14 864 [.ref h0] (ra_LX G ad ++ [(h0, .inr (6, [.int 0, .null, .int 0, .int 0, .int 0, .int 0, .int 0, .int 0, .int 0, .null, .null, .null, .null, .null, .null, .int 0, .null, .null, .null, .null, .int 0, .null, .int 0, .null, .null]))]) (pwX6_init G ad h0 wb) := by
  refine ra_entryN (own := RX6) (by decide) rfl (Nat.le_of_ble_eq_true rfl) ?_
  intro Z hl hG C hQ hr hin
  subst hl; subst hG
  refine ri_aload_n (pc := 0) C 0 rfl rfl dX6_init_0 ?_
  refine ri_obj (pc := 1) C wd_584 wd_17 wd_18 (by decide) (Nat.le_of_ble_eq_true rfl) dX6_init_1 ?_
  refine ri_aload_n (pc := 4) C 0 rfl rfl dX6_init_4 ?_
  refine ri_bipush (pc := 5) (v := 80) C dX6_init_5 (by decide) ?_
  refine ri_newa (pc := 7) (N' := 80) C wd_54 (by decide) (by decide) (by decide) (Nat.le_of_ble_eq_true rfl) (Nat.le_of_ble_eq_true rfl) dX6_init_7 (fun q1 => ?_)
  refine ri_nm (ws' := ra_LX (zG Z) ad ++ [(h0, .inr (6, [.int 0, .null, .int 0, .int 0, .int 0, .int 0, .int 0, .int 0, .int 0, .null, .null, .null, .null, .null, .null, .int 0, .null, .null, .null, .null, .int 0, .null, .int 0, .null, .null])), (q1, .inl ((zG Z).2.2.1, 80, .inl (fun _ => 0)))]) (cs' := 1) (sl' := 80) (ra_aa rfl) rfl rfl ?_
  refine ri_putF (pc := 9) (ws' := ra_LX (zG Z) ad ++ [(h0, .inr (6, [.int 0, .ref q1, .int 0, .int 0, .int 0, .int 0, .int 0, .int 0, .int 0, .null, .null, .null, .null, .null, .null, .int 0, .null, .null, .null, .null, .int 0, .null, .int 0, .null, .null])), (q1, .inl ((zG Z).2.2.1, 80, .inl (fun _ => 0)))]) C hin (134 + 0) 6 1 (ra_ax (ra_LX_len _ _) rfl) rfl inlX6 tyX6 tyX6_ok nmX6 (by decide) wd_597 rfl rfl rfl rfl (Nat.le_of_ble_eq_true rfl) (ra_as (ra_LX_len _ _) rfl) dX6_init_9 ?_
  refine ri_aload_n (pc := 12) C 0 rfl rfl dX6_init_12 ?_
  refine ri_bipush (pc := 13) (v := 19) C dX6_init_13 (by decide) ?_
  refine ri_newa (pc := 15) (N' := 19) C wd_54 (by decide) (by decide) (by decide) (Nat.le_of_ble_eq_true rfl) (Nat.le_of_ble_eq_true rfl) dX6_init_15 (fun q2 => ?_)
  refine ri_nm (ws' := ra_LX (zG Z) ad ++ [(h0, .inr (6, [.int 0, .ref q1, .int 0, .int 0, .int 0, .int 0, .int 0, .int 0, .int 0, .null, .null, .null, .null, .null, .null, .int 0, .null, .null, .null, .null, .int 0, .null, .int 0, .null, .null])), (q1, .inl ((zG Z).2.2.1, 80, .inl (fun _ => 0))), (q2, .inl ((zG Z).2.2.1, 19, .inl (fun _ => 0)))]) (cs' := 2) (sl' := 99) (ra_aa rfl) rfl rfl ?_
  refine ri_putF (pc := 17) (ws' := ra_LX (zG Z) ad ++ [(h0, .inr (6, [.int 0, .ref q1, .int 0, .int 0, .int 0, .int 0, .int 0, .int 0, .int 0, .ref q2, .null, .null, .null, .null, .null, .int 0, .null, .null, .null, .null, .int 0, .null, .int 0, .null, .null])), (q1, .inl ((zG Z).2.2.1, 80, .inl (fun _ => 0))), (q2, .inl ((zG Z).2.2.1, 19, .inl (fun _ => 0)))]) C hin (134 + 0) 6 9 (ra_ax (ra_LX_len _ _) rfl) rfl inlX6 tyX6 tyX6_ok nmX6 (by decide) wd_605 rfl rfl rfl rfl (Nat.le_of_ble_eq_true rfl) (ra_as (ra_LX_len _ _) rfl) dX6_init_17 ?_
  refine ri_aload_n (pc := 20) C 0 rfl rfl dX6_init_20 ?_
  refine ri_bipush (pc := 21) (v := 19) C dX6_init_21 (by decide) ?_
  refine ri_newa (pc := 23) (N' := 19) C wd_54 (by decide) (by decide) (by decide) (Nat.le_of_ble_eq_true rfl) (Nat.le_of_ble_eq_true rfl) dX6_init_23 (fun q3 => ?_)
  refine ri_nm (ws' := ra_LX (zG Z) ad ++ [(h0, .inr (6, [.int 0, .ref q1, .int 0, .int 0, .int 0, .int 0, .int 0, .int 0, .int 0, .ref q2, .null, .null, .null, .null, .null, .int 0, .null, .null, .null, .null, .int 0, .null, .int 0, .null, .null])), (q1, .inl ((zG Z).2.2.1, 80, .inl (fun _ => 0))), (q2, .inl ((zG Z).2.2.1, 19, .inl (fun _ => 0))), (q3, .inl ((zG Z).2.2.1, 19, .inl (fun _ => 0)))]) (cs' := 3) (sl' := 118) (ra_aa rfl) rfl rfl ?_
  refine ri_putF (pc := 25) (ws' := ra_LX (zG Z) ad ++ [(h0, .inr (6, [.int 0, .ref q1, .int 0, .int 0, .int 0, .int 0, .int 0, .int 0, .int 0, .ref q2, .ref q3, .null, .null, .null, .null, .int 0, .null, .null, .null, .null, .int 0, .null, .int 0, .null, .null])), (q1, .inl ((zG Z).2.2.1, 80, .inl (fun _ => 0))), (q2, .inl ((zG Z).2.2.1, 19, .inl (fun _ => 0))), (q3, .inl ((zG Z).2.2.1, 19, .inl (fun _ => 0)))]) C hin (134 + 0) 6 10 (ra_ax (ra_LX_len _ _) rfl) rfl inlX6 tyX6 tyX6_ok nmX6 (by decide) wd_606 rfl rfl rfl rfl (Nat.le_of_ble_eq_true rfl) (ra_as (ra_LX_len _ _) rfl) dX6_init_25 ?_
  refine ri_aload_n (pc := 28) C 0 rfl rfl dX6_init_28 ?_
  refine ri_bipush (pc := 29) (v := 41) C dX6_init_29 (by decide) ?_
  refine ri_newa (pc := 31) (N' := 41) C wd_54 (by decide) (by decide) (by decide) (Nat.le_of_ble_eq_true rfl) (Nat.le_of_ble_eq_true rfl) dX6_init_31 (fun q4 => ?_)
  refine ri_nm (ws' := ra_LX (zG Z) ad ++ [(h0, .inr (6, [.int 0, .ref q1, .int 0, .int 0, .int 0, .int 0, .int 0, .int 0, .int 0, .ref q2, .ref q3, .null, .null, .null, .null, .int 0, .null, .null, .null, .null, .int 0, .null, .int 0, .null, .null])), (q1, .inl ((zG Z).2.2.1, 80, .inl (fun _ => 0))), (q2, .inl ((zG Z).2.2.1, 19, .inl (fun _ => 0))), (q3, .inl ((zG Z).2.2.1, 19, .inl (fun _ => 0))), (q4, .inl ((zG Z).2.2.1, 41, .inl (fun _ => 0)))]) (cs' := 4) (sl' := 159) (ra_aa rfl) rfl rfl ?_
  refine ri_putF (pc := 33) (ws' := ra_LX (zG Z) ad ++ [(h0, .inr (6, [.int 0, .ref q1, .int 0, .int 0, .int 0, .int 0, .int 0, .int 0, .int 0, .ref q2, .ref q3, .ref q4, .null, .null, .null, .int 0, .null, .null, .null, .null, .int 0, .null, .int 0, .null, .null])), (q1, .inl ((zG Z).2.2.1, 80, .inl (fun _ => 0))), (q2, .inl ((zG Z).2.2.1, 19, .inl (fun _ => 0))), (q3, .inl ((zG Z).2.2.1, 19, .inl (fun _ => 0))), (q4, .inl ((zG Z).2.2.1, 41, .inl (fun _ => 0)))]) C hin (134 + 0) 6 11 (ra_ax (ra_LX_len _ _) rfl) rfl inlX6 tyX6 tyX6_ok nmX6 (by decide) wd_607 rfl rfl rfl rfl (Nat.le_of_ble_eq_true rfl) (ra_as (ra_LX_len _ _) rfl) dX6_init_33 ?_
  refine ri_aload_n (pc := 36) C 0 rfl rfl dX6_init_36 ?_
  refine ri_bipush (pc := 37) (v := 41) C dX6_init_37 (by decide) ?_
  refine ri_newa (pc := 39) (N' := 41) C wd_54 (by decide) (by decide) (by decide) (Nat.le_of_ble_eq_true rfl) (Nat.le_of_ble_eq_true rfl) dX6_init_39 (fun q5 => ?_)
  refine ri_nm (ws' := ra_LX (zG Z) ad ++ [(h0, .inr (6, [.int 0, .ref q1, .int 0, .int 0, .int 0, .int 0, .int 0, .int 0, .int 0, .ref q2, .ref q3, .ref q4, .null, .null, .null, .int 0, .null, .null, .null, .null, .int 0, .null, .int 0, .null, .null])), (q1, .inl ((zG Z).2.2.1, 80, .inl (fun _ => 0))), (q2, .inl ((zG Z).2.2.1, 19, .inl (fun _ => 0))), (q3, .inl ((zG Z).2.2.1, 19, .inl (fun _ => 0))), (q4, .inl ((zG Z).2.2.1, 41, .inl (fun _ => 0))), (q5, .inl ((zG Z).2.2.1, 41, .inl (fun _ => 0)))]) (cs' := 5) (sl' := 200) (ra_aa rfl) rfl rfl ?_
  refine ri_putF (pc := 41) (ws' := ra_LX (zG Z) ad ++ [(h0, .inr (6, [.int 0, .ref q1, .int 0, .int 0, .int 0, .int 0, .int 0, .int 0, .int 0, .ref q2, .ref q3, .ref q4, .ref q5, .null, .null, .int 0, .null, .null, .null, .null, .int 0, .null, .int 0, .null, .null])), (q1, .inl ((zG Z).2.2.1, 80, .inl (fun _ => 0))), (q2, .inl ((zG Z).2.2.1, 19, .inl (fun _ => 0))), (q3, .inl ((zG Z).2.2.1, 19, .inl (fun _ => 0))), (q4, .inl ((zG Z).2.2.1, 41, .inl (fun _ => 0))), (q5, .inl ((zG Z).2.2.1, 41, .inl (fun _ => 0)))]) C hin (134 + 0) 6 12 (ra_ax (ra_LX_len _ _) rfl) rfl inlX6 tyX6 tyX6_ok nmX6 (by decide) wd_608 rfl rfl rfl rfl (Nat.le_of_ble_eq_true rfl) (ra_as (ra_LX_len _ _) rfl) dX6_init_41 ?_
  refine ri_aload_n (pc := 44) C 0 rfl rfl dX6_init_44 ?_
  refine ri_bipush (pc := 45) (v := 41) C dX6_init_45 (by decide) ?_
  refine ri_newa (pc := 47) (N' := 41) C wd_54 (by decide) (by decide) (by decide) (Nat.le_of_ble_eq_true rfl) (Nat.le_of_ble_eq_true rfl) dX6_init_47 (fun q6 => ?_)
  refine ri_nm (ws' := ra_LX (zG Z) ad ++ [(h0, .inr (6, [.int 0, .ref q1, .int 0, .int 0, .int 0, .int 0, .int 0, .int 0, .int 0, .ref q2, .ref q3, .ref q4, .ref q5, .null, .null, .int 0, .null, .null, .null, .null, .int 0, .null, .int 0, .null, .null])), (q1, .inl ((zG Z).2.2.1, 80, .inl (fun _ => 0))), (q2, .inl ((zG Z).2.2.1, 19, .inl (fun _ => 0))), (q3, .inl ((zG Z).2.2.1, 19, .inl (fun _ => 0))), (q4, .inl ((zG Z).2.2.1, 41, .inl (fun _ => 0))), (q5, .inl ((zG Z).2.2.1, 41, .inl (fun _ => 0))), (q6, .inl ((zG Z).2.2.1, 41, .inl (fun _ => 0)))]) (cs' := 6) (sl' := 241) (ra_aa rfl) rfl rfl ?_
  refine ri_putF (pc := 49) (ws' := ra_LX (zG Z) ad ++ [(h0, .inr (6, [.int 0, .ref q1, .int 0, .int 0, .int 0, .int 0, .int 0, .int 0, .int 0, .ref q2, .ref q3, .ref q4, .ref q5, .ref q6, .null, .int 0, .null, .null, .null, .null, .int 0, .null, .int 0, .null, .null])), (q1, .inl ((zG Z).2.2.1, 80, .inl (fun _ => 0))), (q2, .inl ((zG Z).2.2.1, 19, .inl (fun _ => 0))), (q3, .inl ((zG Z).2.2.1, 19, .inl (fun _ => 0))), (q4, .inl ((zG Z).2.2.1, 41, .inl (fun _ => 0))), (q5, .inl ((zG Z).2.2.1, 41, .inl (fun _ => 0))), (q6, .inl ((zG Z).2.2.1, 41, .inl (fun _ => 0)))]) C hin (134 + 0) 6 13 (ra_ax (ra_LX_len _ _) rfl) rfl inlX6 tyX6 tyX6_ok nmX6 (by decide) wd_609 rfl rfl rfl rfl (Nat.le_of_ble_eq_true rfl) (ra_as (ra_LX_len _ _) rfl) dX6_init_49 ?_
  refine ri_aload_n (pc := 52) C 0 rfl rfl dX6_init_52 ?_
  refine ri_sipush (pc := 53) (v := 492) C dX6_init_53 (by decide) ?_
  refine ri_newa (pc := 56) (N' := 492) C wd_54 (by decide) (by decide) (by decide) (Nat.le_of_ble_eq_true rfl) (Nat.le_of_ble_eq_true rfl) dX6_init_56 (fun q7 => ?_)
  refine ri_nm (ws' := ra_LX (zG Z) ad ++ [(h0, .inr (6, [.int 0, .ref q1, .int 0, .int 0, .int 0, .int 0, .int 0, .int 0, .int 0, .ref q2, .ref q3, .ref q4, .ref q5, .ref q6, .null, .int 0, .null, .null, .null, .null, .int 0, .null, .int 0, .null, .null])), (q1, .inl ((zG Z).2.2.1, 80, .inl (fun _ => 0))), (q2, .inl ((zG Z).2.2.1, 19, .inl (fun _ => 0))), (q3, .inl ((zG Z).2.2.1, 19, .inl (fun _ => 0))), (q4, .inl ((zG Z).2.2.1, 41, .inl (fun _ => 0))), (q5, .inl ((zG Z).2.2.1, 41, .inl (fun _ => 0))), (q6, .inl ((zG Z).2.2.1, 41, .inl (fun _ => 0))), (q7, .inl ((zG Z).2.2.1, 492, .inl (fun _ => 0)))]) (cs' := 7) (sl' := 733) (ra_aa rfl) rfl rfl ?_
  refine ri_putF (pc := 58) (ws' := ra_LX (zG Z) ad ++ [(h0, .inr (6, [.int 0, .ref q1, .int 0, .int 0, .int 0, .int 0, .int 0, .int 0, .int 0, .ref q2, .ref q3, .ref q4, .ref q5, .ref q6, .ref q7, .int 0, .null, .null, .null, .null, .int 0, .null, .int 0, .null, .null])), (q1, .inl ((zG Z).2.2.1, 80, .inl (fun _ => 0))), (q2, .inl ((zG Z).2.2.1, 19, .inl (fun _ => 0))), (q3, .inl ((zG Z).2.2.1, 19, .inl (fun _ => 0))), (q4, .inl ((zG Z).2.2.1, 41, .inl (fun _ => 0))), (q5, .inl ((zG Z).2.2.1, 41, .inl (fun _ => 0))), (q6, .inl ((zG Z).2.2.1, 41, .inl (fun _ => 0))), (q7, .inl ((zG Z).2.2.1, 492, .inl (fun _ => 0)))]) C hin (134 + 0) 6 14 (ra_ax (ra_LX_len _ _) rfl) rfl inlX6 tyX6 tyX6_ok nmX6 (by decide) wd_610 rfl rfl rfl rfl (Nat.le_of_ble_eq_true rfl) (ra_as (ra_LX_len _ _) rfl) dX6_init_58 ?_
  refine ri_aload_n (pc := 61) C 0 rfl rfl dX6_init_61 ?_
  refine ri_bipush (pc := 62) (v := 82) C dX6_init_62 (by decide) ?_
  refine ri_newa (pc := 64) (N' := 82) C wd_54 (by decide) (by decide) (by decide) (Nat.le_of_ble_eq_true rfl) (Nat.le_of_ble_eq_true rfl) dX6_init_64 (fun q8 => ?_)
  refine ri_nm (ws' := ra_LX (zG Z) ad ++ [(h0, .inr (6, [.int 0, .ref q1, .int 0, .int 0, .int 0, .int 0, .int 0, .int 0, .int 0, .ref q2, .ref q3, .ref q4, .ref q5, .ref q6, .ref q7, .int 0, .null, .null, .null, .null, .int 0, .null, .int 0, .null, .null])), (q1, .inl ((zG Z).2.2.1, 80, .inl (fun _ => 0))), (q2, .inl ((zG Z).2.2.1, 19, .inl (fun _ => 0))), (q3, .inl ((zG Z).2.2.1, 19, .inl (fun _ => 0))), (q4, .inl ((zG Z).2.2.1, 41, .inl (fun _ => 0))), (q5, .inl ((zG Z).2.2.1, 41, .inl (fun _ => 0))), (q6, .inl ((zG Z).2.2.1, 41, .inl (fun _ => 0))), (q7, .inl ((zG Z).2.2.1, 492, .inl (fun _ => 0))), (q8, .inl ((zG Z).2.2.1, 82, .inl (fun _ => 0)))]) (cs' := 8) (sl' := 815) (ra_aa rfl) rfl rfl ?_
  refine ri_putF (pc := 66) (ws' := ra_LX (zG Z) ad ++ [(h0, .inr (6, [.int 0, .ref q1, .int 0, .int 0, .int 0, .int 0, .int 0, .int 0, .int 0, .ref q2, .ref q3, .ref q4, .ref q5, .ref q6, .ref q7, .int 0, .ref q8, .null, .null, .null, .int 0, .null, .int 0, .null, .null])), (q1, .inl ((zG Z).2.2.1, 80, .inl (fun _ => 0))), (q2, .inl ((zG Z).2.2.1, 19, .inl (fun _ => 0))), (q3, .inl ((zG Z).2.2.1, 19, .inl (fun _ => 0))), (q4, .inl ((zG Z).2.2.1, 41, .inl (fun _ => 0))), (q5, .inl ((zG Z).2.2.1, 41, .inl (fun _ => 0))), (q6, .inl ((zG Z).2.2.1, 41, .inl (fun _ => 0))), (q7, .inl ((zG Z).2.2.1, 492, .inl (fun _ => 0))), (q8, .inl ((zG Z).2.2.1, 82, .inl (fun _ => 0)))]) C hin (134 + 0) 6 16 (ra_ax (ra_LX_len _ _) rfl) rfl inlX6 tyX6 tyX6_ok nmX6 (by decide) wd_612 rfl rfl rfl rfl (Nat.le_of_ble_eq_true rfl) (ra_as (ra_LX_len _ _) rfl) dX6_init_66 ?_
  refine ri_aload_n (pc := 69) C 0 rfl rfl dX6_init_69 ?_
  refine ri_iconst (pc := 70) (v := 2) C dX6_init_70 (by decide) ?_
  refine ri_newz (pc := 71) (N' := 2) C wd_672 (by decide) (by decide) (by decide) (Nat.le_of_ble_eq_true rfl) (Nat.le_of_ble_eq_true rfl) dX6_init_71 (fun q9 => ?_)
  refine ri_nm (ws' := ra_LX (zG Z) ad ++ [(h0, .inr (6, [.int 0, .ref q1, .int 0, .int 0, .int 0, .int 0, .int 0, .int 0, .int 0, .ref q2, .ref q3, .ref q4, .ref q5, .ref q6, .ref q7, .int 0, .ref q8, .null, .null, .null, .int 0, .null, .int 0, .null, .null])), (q1, .inl ((zG Z).2.2.1, 80, .inl (fun _ => 0))), (q2, .inl ((zG Z).2.2.1, 19, .inl (fun _ => 0))), (q3, .inl ((zG Z).2.2.1, 19, .inl (fun _ => 0))), (q4, .inl ((zG Z).2.2.1, 41, .inl (fun _ => 0))), (q5, .inl ((zG Z).2.2.1, 41, .inl (fun _ => 0))), (q6, .inl ((zG Z).2.2.1, 41, .inl (fun _ => 0))), (q7, .inl ((zG Z).2.2.1, 492, .inl (fun _ => 0))), (q8, .inl ((zG Z).2.2.1, 82, .inl (fun _ => 0))), (q9, .inl ((zG Z).2.2.2.1, 2, .inl (fun _ => 0)))]) (cs' := 9) (sl' := 817) (ra_aa rfl) rfl rfl ?_
  refine ri_putF (pc := 73) (ws' := ra_LX (zG Z) ad ++ [(h0, .inr (6, [.int 0, .ref q1, .int 0, .int 0, .int 0, .int 0, .int 0, .int 0, .int 0, .ref q2, .ref q3, .ref q4, .ref q5, .ref q6, .ref q7, .int 0, .ref q8, .ref q9, .null, .null, .int 0, .null, .int 0, .null, .null])), (q1, .inl ((zG Z).2.2.1, 80, .inl (fun _ => 0))), (q2, .inl ((zG Z).2.2.1, 19, .inl (fun _ => 0))), (q3, .inl ((zG Z).2.2.1, 19, .inl (fun _ => 0))), (q4, .inl ((zG Z).2.2.1, 41, .inl (fun _ => 0))), (q5, .inl ((zG Z).2.2.1, 41, .inl (fun _ => 0))), (q6, .inl ((zG Z).2.2.1, 41, .inl (fun _ => 0))), (q7, .inl ((zG Z).2.2.1, 492, .inl (fun _ => 0))), (q8, .inl ((zG Z).2.2.1, 82, .inl (fun _ => 0))), (q9, .inl ((zG Z).2.2.2.1, 2, .inl (fun _ => 0)))]) C hin (134 + 0) 6 17 (ra_ax (ra_LX_len _ _) rfl) rfl inlX6 tyX6 tyX6_ok nmX6 (by decide) wd_613 rfl rfl rfl rfl (Nat.le_of_ble_eq_true rfl) (ra_as (ra_LX_len _ _) rfl) dX6_init_73 ?_
  refine ri_aload_n (pc := 76) C 0 rfl rfl dX6_init_76 ?_
  refine ri_bipush (pc := 77) (v := 6) C dX6_init_77 (by decide) ?_
  refine ri_newa (pc := 79) (N' := 6) C wd_54 (by decide) (by decide) (by decide) (Nat.le_of_ble_eq_true rfl) (Nat.le_of_ble_eq_true rfl) dX6_init_79 (fun q10 => ?_)
  refine ri_nm (ws' := ra_LX (zG Z) ad ++ [(h0, .inr (6, [.int 0, .ref q1, .int 0, .int 0, .int 0, .int 0, .int 0, .int 0, .int 0, .ref q2, .ref q3, .ref q4, .ref q5, .ref q6, .ref q7, .int 0, .ref q8, .ref q9, .null, .null, .int 0, .null, .int 0, .null, .null])), (q1, .inl ((zG Z).2.2.1, 80, .inl (fun _ => 0))), (q2, .inl ((zG Z).2.2.1, 19, .inl (fun _ => 0))), (q3, .inl ((zG Z).2.2.1, 19, .inl (fun _ => 0))), (q4, .inl ((zG Z).2.2.1, 41, .inl (fun _ => 0))), (q5, .inl ((zG Z).2.2.1, 41, .inl (fun _ => 0))), (q6, .inl ((zG Z).2.2.1, 41, .inl (fun _ => 0))), (q7, .inl ((zG Z).2.2.1, 492, .inl (fun _ => 0))), (q8, .inl ((zG Z).2.2.1, 82, .inl (fun _ => 0))), (q9, .inl ((zG Z).2.2.2.1, 2, .inl (fun _ => 0))), (q10, .inl ((zG Z).2.2.1, 6, .inl (fun _ => 0)))]) (cs' := 10) (sl' := 823) (ra_aa rfl) rfl rfl ?_
  refine ri_putF (pc := 81) (ws' := ra_LX (zG Z) ad ++ [(h0, .inr (6, [.int 0, .ref q1, .int 0, .int 0, .int 0, .int 0, .int 0, .int 0, .int 0, .ref q2, .ref q3, .ref q4, .ref q5, .ref q6, .ref q7, .int 0, .ref q8, .ref q9, .ref q10, .null, .int 0, .null, .int 0, .null, .null])), (q1, .inl ((zG Z).2.2.1, 80, .inl (fun _ => 0))), (q2, .inl ((zG Z).2.2.1, 19, .inl (fun _ => 0))), (q3, .inl ((zG Z).2.2.1, 19, .inl (fun _ => 0))), (q4, .inl ((zG Z).2.2.1, 41, .inl (fun _ => 0))), (q5, .inl ((zG Z).2.2.1, 41, .inl (fun _ => 0))), (q6, .inl ((zG Z).2.2.1, 41, .inl (fun _ => 0))), (q7, .inl ((zG Z).2.2.1, 492, .inl (fun _ => 0))), (q8, .inl ((zG Z).2.2.1, 82, .inl (fun _ => 0))), (q9, .inl ((zG Z).2.2.2.1, 2, .inl (fun _ => 0))), (q10, .inl ((zG Z).2.2.1, 6, .inl (fun _ => 0)))]) C hin (134 + 0) 6 18 (ra_ax (ra_LX_len _ _) rfl) rfl inlX6 tyX6 tyX6_ok nmX6 (by decide) wd_614 rfl rfl rfl rfl (Nat.le_of_ble_eq_true rfl) (ra_as (ra_LX_len _ _) rfl) dX6_init_81 ?_
  refine ri_aload_n (pc := 84) C 0 rfl rfl dX6_init_84 ?_
  refine ri_bipush (pc := 85) (v := 6) C dX6_init_85 (by decide) ?_
  refine ri_newa (pc := 87) (N' := 6) C wd_54 (by decide) (by decide) (by decide) (Nat.le_of_ble_eq_true rfl) (Nat.le_of_ble_eq_true rfl) dX6_init_87 (fun q11 => ?_)
  refine ri_nm (ws' := ra_LX (zG Z) ad ++ [(h0, .inr (6, [.int 0, .ref q1, .int 0, .int 0, .int 0, .int 0, .int 0, .int 0, .int 0, .ref q2, .ref q3, .ref q4, .ref q5, .ref q6, .ref q7, .int 0, .ref q8, .ref q9, .ref q10, .null, .int 0, .null, .int 0, .null, .null])), (q1, .inl ((zG Z).2.2.1, 80, .inl (fun _ => 0))), (q2, .inl ((zG Z).2.2.1, 19, .inl (fun _ => 0))), (q3, .inl ((zG Z).2.2.1, 19, .inl (fun _ => 0))), (q4, .inl ((zG Z).2.2.1, 41, .inl (fun _ => 0))), (q5, .inl ((zG Z).2.2.1, 41, .inl (fun _ => 0))), (q6, .inl ((zG Z).2.2.1, 41, .inl (fun _ => 0))), (q7, .inl ((zG Z).2.2.1, 492, .inl (fun _ => 0))), (q8, .inl ((zG Z).2.2.1, 82, .inl (fun _ => 0))), (q9, .inl ((zG Z).2.2.2.1, 2, .inl (fun _ => 0))), (q10, .inl ((zG Z).2.2.1, 6, .inl (fun _ => 0))), (q11, .inl ((zG Z).2.2.1, 6, .inl (fun _ => 0)))]) (cs' := 11) (sl' := 829) (ra_aa rfl) rfl rfl ?_
  refine ri_putF (pc := 89) (ws' := ra_LX (zG Z) ad ++ [(h0, .inr (6, [.int 0, .ref q1, .int 0, .int 0, .int 0, .int 0, .int 0, .int 0, .int 0, .ref q2, .ref q3, .ref q4, .ref q5, .ref q6, .ref q7, .int 0, .ref q8, .ref q9, .ref q10, .ref q11, .int 0, .null, .int 0, .null, .null])), (q1, .inl ((zG Z).2.2.1, 80, .inl (fun _ => 0))), (q2, .inl ((zG Z).2.2.1, 19, .inl (fun _ => 0))), (q3, .inl ((zG Z).2.2.1, 19, .inl (fun _ => 0))), (q4, .inl ((zG Z).2.2.1, 41, .inl (fun _ => 0))), (q5, .inl ((zG Z).2.2.1, 41, .inl (fun _ => 0))), (q6, .inl ((zG Z).2.2.1, 41, .inl (fun _ => 0))), (q7, .inl ((zG Z).2.2.1, 492, .inl (fun _ => 0))), (q8, .inl ((zG Z).2.2.1, 82, .inl (fun _ => 0))), (q9, .inl ((zG Z).2.2.2.1, 2, .inl (fun _ => 0))), (q10, .inl ((zG Z).2.2.1, 6, .inl (fun _ => 0))), (q11, .inl ((zG Z).2.2.1, 6, .inl (fun _ => 0)))]) C hin (134 + 0) 6 19 (ra_ax (ra_LX_len _ _) rfl) rfl inlX6 tyX6 tyX6_ok nmX6 (by decide) wd_615 rfl rfl rfl rfl (Nat.le_of_ble_eq_true rfl) (ra_as (ra_LX_len _ _) rfl) dX6_init_89 ?_
  refine ri_aload_n (pc := 92) C 0 rfl rfl dX6_init_92 ?_
  refine ri_bipush (pc := 93) (v := 7) C dX6_init_93 (by decide) ?_
  refine ri_newa (pc := 95) (N' := 7) C wd_54 (by decide) (by decide) (by decide) (Nat.le_of_ble_eq_true rfl) (Nat.le_of_ble_eq_true rfl) dX6_init_95 (fun q12 => ?_)
  refine ri_nm (ws' := ra_LX (zG Z) ad ++ [(h0, .inr (6, [.int 0, .ref q1, .int 0, .int 0, .int 0, .int 0, .int 0, .int 0, .int 0, .ref q2, .ref q3, .ref q4, .ref q5, .ref q6, .ref q7, .int 0, .ref q8, .ref q9, .ref q10, .ref q11, .int 0, .null, .int 0, .null, .null])), (q1, .inl ((zG Z).2.2.1, 80, .inl (fun _ => 0))), (q2, .inl ((zG Z).2.2.1, 19, .inl (fun _ => 0))), (q3, .inl ((zG Z).2.2.1, 19, .inl (fun _ => 0))), (q4, .inl ((zG Z).2.2.1, 41, .inl (fun _ => 0))), (q5, .inl ((zG Z).2.2.1, 41, .inl (fun _ => 0))), (q6, .inl ((zG Z).2.2.1, 41, .inl (fun _ => 0))), (q7, .inl ((zG Z).2.2.1, 492, .inl (fun _ => 0))), (q8, .inl ((zG Z).2.2.1, 82, .inl (fun _ => 0))), (q9, .inl ((zG Z).2.2.2.1, 2, .inl (fun _ => 0))), (q10, .inl ((zG Z).2.2.1, 6, .inl (fun _ => 0))), (q11, .inl ((zG Z).2.2.1, 6, .inl (fun _ => 0))), (q12, .inl ((zG Z).2.2.1, 7, .inl (fun _ => 0)))]) (cs' := 12) (sl' := 836) (ra_aa rfl) rfl rfl ?_
  refine ri_putF (pc := 97) (ws' := ra_LX (zG Z) ad ++ [(h0, .inr (6, [.int 0, .ref q1, .int 0, .int 0, .int 0, .int 0, .int 0, .int 0, .int 0, .ref q2, .ref q3, .ref q4, .ref q5, .ref q6, .ref q7, .int 0, .ref q8, .ref q9, .ref q10, .ref q11, .int 0, .ref q12, .int 0, .null, .null])), (q1, .inl ((zG Z).2.2.1, 80, .inl (fun _ => 0))), (q2, .inl ((zG Z).2.2.1, 19, .inl (fun _ => 0))), (q3, .inl ((zG Z).2.2.1, 19, .inl (fun _ => 0))), (q4, .inl ((zG Z).2.2.1, 41, .inl (fun _ => 0))), (q5, .inl ((zG Z).2.2.1, 41, .inl (fun _ => 0))), (q6, .inl ((zG Z).2.2.1, 41, .inl (fun _ => 0))), (q7, .inl ((zG Z).2.2.1, 492, .inl (fun _ => 0))), (q8, .inl ((zG Z).2.2.1, 82, .inl (fun _ => 0))), (q9, .inl ((zG Z).2.2.2.1, 2, .inl (fun _ => 0))), (q10, .inl ((zG Z).2.2.1, 6, .inl (fun _ => 0))), (q11, .inl ((zG Z).2.2.1, 6, .inl (fun _ => 0))), (q12, .inl ((zG Z).2.2.1, 7, .inl (fun _ => 0)))]) C hin (134 + 0) 6 21 (ra_ax (ra_LX_len _ _) rfl) rfl inlX6 tyX6 tyX6_ok nmX6 (by decide) wd_617 rfl rfl rfl rfl (Nat.le_of_ble_eq_true rfl) (ra_as (ra_LX_len _ _) rfl) dX6_init_97 ?_
  refine ri_aload_n (pc := 100) C 0 rfl rfl dX6_init_100 ?_
  refine ri_bipush (pc := 101) (v := 7) C dX6_init_101 (by decide) ?_
  refine ri_newa (pc := 103) (N' := 7) C wd_54 (by decide) (by decide) (by decide) (Nat.le_of_ble_eq_true rfl) (Nat.le_of_ble_eq_true rfl) dX6_init_103 (fun q13 => ?_)
  refine ri_nm (ws' := ra_LX (zG Z) ad ++ [(h0, .inr (6, [.int 0, .ref q1, .int 0, .int 0, .int 0, .int 0, .int 0, .int 0, .int 0, .ref q2, .ref q3, .ref q4, .ref q5, .ref q6, .ref q7, .int 0, .ref q8, .ref q9, .ref q10, .ref q11, .int 0, .ref q12, .int 0, .null, .null])), (q1, .inl ((zG Z).2.2.1, 80, .inl (fun _ => 0))), (q2, .inl ((zG Z).2.2.1, 19, .inl (fun _ => 0))), (q3, .inl ((zG Z).2.2.1, 19, .inl (fun _ => 0))), (q4, .inl ((zG Z).2.2.1, 41, .inl (fun _ => 0))), (q5, .inl ((zG Z).2.2.1, 41, .inl (fun _ => 0))), (q6, .inl ((zG Z).2.2.1, 41, .inl (fun _ => 0))), (q7, .inl ((zG Z).2.2.1, 492, .inl (fun _ => 0))), (q8, .inl ((zG Z).2.2.1, 82, .inl (fun _ => 0))), (q9, .inl ((zG Z).2.2.2.1, 2, .inl (fun _ => 0))), (q10, .inl ((zG Z).2.2.1, 6, .inl (fun _ => 0))), (q11, .inl ((zG Z).2.2.1, 6, .inl (fun _ => 0))), (q12, .inl ((zG Z).2.2.1, 7, .inl (fun _ => 0))), (q13, .inl ((zG Z).2.2.1, 7, .inl (fun _ => 0)))]) (cs' := 13) (sl' := 843) (ra_aa rfl) rfl rfl ?_
  refine ri_putF (pc := 105) (ws' := ra_LX (zG Z) ad ++ [(h0, .inr (6, [.int 0, .ref q1, .int 0, .int 0, .int 0, .int 0, .int 0, .int 0, .int 0, .ref q2, .ref q3, .ref q4, .ref q5, .ref q6, .ref q7, .int 0, .ref q8, .ref q9, .ref q10, .ref q11, .int 0, .ref q12, .int 0, .ref q13, .null])), (q1, .inl ((zG Z).2.2.1, 80, .inl (fun _ => 0))), (q2, .inl ((zG Z).2.2.1, 19, .inl (fun _ => 0))), (q3, .inl ((zG Z).2.2.1, 19, .inl (fun _ => 0))), (q4, .inl ((zG Z).2.2.1, 41, .inl (fun _ => 0))), (q5, .inl ((zG Z).2.2.1, 41, .inl (fun _ => 0))), (q6, .inl ((zG Z).2.2.1, 41, .inl (fun _ => 0))), (q7, .inl ((zG Z).2.2.1, 492, .inl (fun _ => 0))), (q8, .inl ((zG Z).2.2.1, 82, .inl (fun _ => 0))), (q9, .inl ((zG Z).2.2.2.1, 2, .inl (fun _ => 0))), (q10, .inl ((zG Z).2.2.1, 6, .inl (fun _ => 0))), (q11, .inl ((zG Z).2.2.1, 6, .inl (fun _ => 0))), (q12, .inl ((zG Z).2.2.1, 7, .inl (fun _ => 0))), (q13, .inl ((zG Z).2.2.1, 7, .inl (fun _ => 0)))]) C hin (134 + 0) 6 23 (ra_ax (ra_LX_len _ _) rfl) rfl inlX6 tyX6 tyX6_ok nmX6 (by decide) wd_619 rfl rfl rfl rfl (Nat.le_of_ble_eq_true rfl) (ra_as (ra_LX_len _ _) rfl) dX6_init_105 ?_
  refine ri_aload_n (pc := 108) C 0 rfl rfl dX6_init_108 ?_
  refine ri_bipush (pc := 109) (v := 21) C dX6_init_109 (by decide) ?_
  refine ri_newa (pc := 111) (N' := 21) C wd_54 (by decide) (by decide) (by decide) (Nat.le_of_ble_eq_true rfl) (Nat.le_of_ble_eq_true rfl) dX6_init_111 (fun q14 => ?_)
  refine ri_nm (ws' := ra_LX (zG Z) ad ++ [(h0, .inr (6, [.int 0, .ref q1, .int 0, .int 0, .int 0, .int 0, .int 0, .int 0, .int 0, .ref q2, .ref q3, .ref q4, .ref q5, .ref q6, .ref q7, .int 0, .ref q8, .ref q9, .ref q10, .ref q11, .int 0, .ref q12, .int 0, .ref q13, .null])), (q1, .inl ((zG Z).2.2.1, 80, .inl (fun _ => 0))), (q2, .inl ((zG Z).2.2.1, 19, .inl (fun _ => 0))), (q3, .inl ((zG Z).2.2.1, 19, .inl (fun _ => 0))), (q4, .inl ((zG Z).2.2.1, 41, .inl (fun _ => 0))), (q5, .inl ((zG Z).2.2.1, 41, .inl (fun _ => 0))), (q6, .inl ((zG Z).2.2.1, 41, .inl (fun _ => 0))), (q7, .inl ((zG Z).2.2.1, 492, .inl (fun _ => 0))), (q8, .inl ((zG Z).2.2.1, 82, .inl (fun _ => 0))), (q9, .inl ((zG Z).2.2.2.1, 2, .inl (fun _ => 0))), (q10, .inl ((zG Z).2.2.1, 6, .inl (fun _ => 0))), (q11, .inl ((zG Z).2.2.1, 6, .inl (fun _ => 0))), (q12, .inl ((zG Z).2.2.1, 7, .inl (fun _ => 0))), (q13, .inl ((zG Z).2.2.1, 7, .inl (fun _ => 0))), (q14, .inl ((zG Z).2.2.1, 21, .inl (fun _ => 0)))]) (cs' := 14) (sl' := 864) (ra_aa rfl) rfl rfl ?_
  refine ri_putF (pc := 113) (ws' := ra_LX (zG Z) ad ++ [(h0, .inr (6, [.int 0, .ref q1, .int 0, .int 0, .int 0, .int 0, .int 0, .int 0, .int 0, .ref q2, .ref q3, .ref q4, .ref q5, .ref q6, .ref q7, .int 0, .ref q8, .ref q9, .ref q10, .ref q11, .int 0, .ref q12, .int 0, .ref q13, .ref q14])), (q1, .inl ((zG Z).2.2.1, 80, .inl (fun _ => 0))), (q2, .inl ((zG Z).2.2.1, 19, .inl (fun _ => 0))), (q3, .inl ((zG Z).2.2.1, 19, .inl (fun _ => 0))), (q4, .inl ((zG Z).2.2.1, 41, .inl (fun _ => 0))), (q5, .inl ((zG Z).2.2.1, 41, .inl (fun _ => 0))), (q6, .inl ((zG Z).2.2.1, 41, .inl (fun _ => 0))), (q7, .inl ((zG Z).2.2.1, 492, .inl (fun _ => 0))), (q8, .inl ((zG Z).2.2.1, 82, .inl (fun _ => 0))), (q9, .inl ((zG Z).2.2.2.1, 2, .inl (fun _ => 0))), (q10, .inl ((zG Z).2.2.1, 6, .inl (fun _ => 0))), (q11, .inl ((zG Z).2.2.1, 6, .inl (fun _ => 0))), (q12, .inl ((zG Z).2.2.1, 7, .inl (fun _ => 0))), (q13, .inl ((zG Z).2.2.1, 7, .inl (fun _ => 0))), (q14, .inl ((zG Z).2.2.1, 21, .inl (fun _ => 0)))]) C hin (134 + 0) 6 24 (ra_ax (ra_LX_len _ _) rfl) rfl inlX6 tyX6 tyX6_ok nmX6 (by decide) wd_620 rfl rfl rfl rfl (Nat.le_of_ble_eq_true rfl) (ra_as (ra_LX_len _ _) rfl) dX6_init_113 ?_
  refine ra_flat (Y := [h0, q1, q2, q3, q4, q5, q6, q7, q8, q9, q10, q11, q12, q13, q14]) (by intro i hi; rcases (show i = 0 ∨ i = 1 ∨ i = 2 ∨ i = 3 ∨ i = 4 ∨ i = 5 ∨ i = 6 ∨ i = 7 ∨ i = 8 ∨ i = 9 ∨ i = 10 ∨ i = 11 ∨ i = 12 ∨ i = 13 ∨ i = 14 by omega) with rfl | rfl | rfl | rfl | rfl | rfl | rfl | rfl | rfl | rfl | rfl | rfl | rfl | rfl | rfl <;> rfl) ?_
  refine ra_IJ C ⟨(Nat.le_of_ble_eq_true rfl), (Nat.le_of_ble_eq_true rfl)⟩ (fun C2 => ?_)
  refine rg_aload_n (pc := 116) C2 0 rfl rfl dX6_init_116 ?_
  refine rg_callVV (pc := 117) (As := []) (st := []) C2 (kX6_begins (zl Z) (ra_a2 ad [h0, q1, q2, q3, q4, q5, q6, q7, q8, q9, q10, q11, q12, q13, q14], (zG Z).2) C2.hj k _ _ _ e1) kd_134 (by decide) rfl ysX6_begins rfl wd_585 ⟨(Nat.le_of_ble_eq_true rfl), (Nat.le_of_ble_eq_true rfl)⟩ rfl (Nat.le_of_ble_eq_true rfl) dX6_init_117 ?_
  refine rg_aload_n (pc := 120) C2 0 rfl rfl dX6_init_120 ?_
  refine rg_callVV (pc := 121) (As := []) (st := []) C2 (kX6_settles (zl Z) (ra_a2 ad [h0, q1, q2, q3, q4, q5, q6, q7, q8, q9, q10, q11, q12, q13, q14], (zG Z).2) C2.hj k _ _ _ e2) kd_134 (by decide) rfl ysX6_settles rfl wd_589 ⟨(Nat.le_of_ble_eq_true rfl), (Nat.le_of_ble_eq_true rfl)⟩ rfl (Nat.le_of_ble_eq_true rfl) dX6_init_121 ?_
  exact ri_flatret (pc := 124) C C2 hQ hr ⟨ra_a2 ad [h0, q1, q2, q3, q4, q5, q6, q7, q8, q9, q10, q11, q12, q13, q14], fun j hj => if_pos hj, rfl, rfl⟩ ⟨(Nat.le_of_ble_eq_true rfl), (Nat.le_of_ble_eq_true rfl)⟩ dX6_init_124
