theorem ra_cls {s : State} {args : Array Value} {ty : FieldType} (hobj : ∀ n, ty ≠ .object n) (h : (Cond.arrayClass ty).before args s = true) : ∃ cA : ClassId, ArrOfT s cA ty ∧ va_RA s cA ty := by
  obtain ⟨cA, kA, comp, h1, h2, h3⟩ := Cond.arrayClass_spec h
  refine ⟨cA, fun n z => ⟨fun k h => (by cases h), kA, h2, comp, h3⟩, ?_⟩
  cases ty with
  | object n => exact absurd rfl (hobj n)
  | _ => exact h1
theorem ra_clsO {s : State} {C : String} (h : va_AO C s) : ∃ cA : ClassId, ArrOfT s cA (.object C) ∧ va_RA s cA (.object C) := by
  obtain ⟨comp, cA, kA, h1, h2, h3, h4, h5⟩ := Cond.arrayOver_spec h
  exact ⟨cA, fun n z => ⟨fun k h => (by cases h), kA, h3, comp, h4⟩, kA, comp, h3, h4, h1, h5⟩
theorem wd_ao : Cond.arrayOver (.object "TrunkRadio$State") ∈ lw_tbl := List.mem_append_right _ (List.mem_of_getElem? (i := 188) (by decide +kernel))
theorem ra_ids {s : State} {args : Array Value} (hts : ∀ w ∈ TW, w.before args s = true) (hao : va_AO "TrunkRadio$State" s) : ∃ (D : va_G) (cI cZ cS : ClassId), va_K D vwCl (ra_tys ((fun _ => 0), D, cI, cZ, cS)) s := by
  obtain ⟨c0, i0, hk0⟩ := u_known (C := RX0) (T := TX0) (N := 2) (n := 2) hts inlX0 (hts _ wd_111)
  obtain ⟨c1, i1, hk1⟩ := u_known (C := RX1) (T := TX1) (N := 3) (n := 3) hts inlX1 (hts _ wd_182)
  obtain ⟨c2, i2, hk2⟩ := u_known (C := RX2) (T := TX2) (N := 7) (n := 7) hts inlX2 (hts _ wd_56)
  obtain ⟨c3, i3, hk3⟩ := u_known (C := RX3) (T := TX3) (N := 9) (n := 9) hts inlX3 (hts _ wd_20)
  obtain ⟨c4, i4, hk4⟩ := u_known (C := RX4) (T := TX4) (N := 10) (n := 10) hts inlX4 (hts _ wd_125)
  obtain ⟨c5, i5, hk5⟩ := u_known (C := RX5) (T := TX5) (N := 13) (n := 13) hts inlX5 (hts _ wd_12)
  obtain ⟨c6, i6, hk6⟩ := u_known (C := RX6) (T := TX6) (N := 25) (n := 25) hts inlX6 (hts _ wd_580)
  obtain ⟨cI, a1, a2⟩ := ra_cls (ty := .int) (fun n h => by cases h) (hts _ wd_54)
  obtain ⟨cZ, b1, b2⟩ := ra_cls (ty := .boolean) (fun n h => by cases h) (hts _ wd_672)
  obtain ⟨cS, d1, d2⟩ := ra_clsO hao
  refine ⟨(fun k => if k = 0 then c0 else if k = 1 then c1 else if k = 2 then c2 else if k = 3 then c3 else if k = 4 then c4 else if k = 5 then c5 else c6, fun k => if k = 0 then i0 else if k = 1 then i1 else if k = 2 then i2 else if k = 3 then i3 else if k = 4 then i4 else if k = 5 then i5 else i6), cI, cZ, cS, fun k q hq => ?_, fun k q hq => ?_⟩
  · match k, hq with
    | 0, hq => cases hq; exact hk0
    | 1, hq => cases hq; exact hk1
    | 2, hq => cases hq; exact hk2
    | 3, hq => cases hq; exact hk3
    | 4, hq => cases hq; exact hk4
    | 5, hq => cases hq; exact hk5
    | 6, hq => cases hq; exact hk6
    | k + 7, hq => simp [vwCl] at hq
  · match k, hq with
    | 0, hq => cases hq; exact ⟨a1, a2⟩
    | 1, hq => cases hq; exact ⟨b1, b2⟩
    | 2, hq => cases hq; exact ⟨d1, d2⟩
    | k + 3, hq => simp [ra_tys] at hq
set_option maxHeartbeats 4000000 in
set_option maxRecDepth 100000 in
theorem law_start {Z : ra_Z} {b L k nf : Nat} {xs : Nat → Int32} {r1 r2 : Int32} {wa wb : ra_W} {y : Int32 × ra_W} (C : ra_CI Z code 4 RL 10 382 149 1900) (hAe : ∀ q, zA Z q ↔ (zs Z).heap.size ≤ q) (HX : va_X b L xs (zs Z) (zs Z).heap ∧ b < (zs Z).heap.size) (hQ : zQ Z = lw_Z (zbl Z) #[Value.ref b] (zs Z) ∧ zar Z = #[Value.ref b] ∧ zR Z = room_1 ∧ (zmt Z).sig.returnType = ret) (e1 : FX6_begins k ra_w0 = some (r1, wa)) (e2 : FX6_settles k wa = some (r2, wb)) (e3 : fL_law k L xs nf 0 0 wb = some y) : ra_I Z 4 0 [(0, .ref b)] [] [] 0 0 := by
  refine ri_new (pc := 0) (fs := [.null, .null, .null, .null, .null, .null, .null, .null, .int 0, .null, .null, .int 0, .null]) C 5 rfl inlX5 tyX5 tyX5_ok wd_11 wd_12 wd_1 (by decide) (Nat.le_of_ble_eq_true rfl) (Nat.le_of_ble_eq_true rfl) dL_law_0 (fun q0 => ?_)
  refine ri_nm (ws' := [(q0, .inr (5, [.null, .null, .null, .null, .null, .null, .null, .null, .int 0, .null, .null, .int 0, .null]))]) (cs' := 1) (sl' := 13) rfl rfl rfl ?_
  refine ri_dup (pc := 3) C rfl dL_law_3 ?_
  refine ri_callI (pc := 4) (wc := [(q0, .inr (5, [.null, .null, .null, .null, .null, .null, .null, .null, .int 0, .null, .null, .int 0, .null]))]) (wr := []) C (kX5_init (zl Z) (zG Z) q0) ⟨wd_1, wd_15, by decide, by decide, by decide⟩ rfl wd_14 wd_13 ⟨(Nat.le_of_ble_eq_true rfl), (Nat.le_of_ble_eq_true rfl)⟩ [0] [] rfl rfl (by decide) (by decide) (by decide) ⟨(Nat.le_of_ble_eq_true rfl), (Nat.le_of_ble_eq_true rfl)⟩ (Nat.le_of_ble_eq_true rfl) dL_law_4 ?_
  intro w1 hp
  obtain ⟨ad, had, rfl⟩ := hp
  refine ri_nm (ws' := ra_LX (zG Z) ad) (cs' := 134) (sl' := 963) rfl rfl rfl ?_
  refine ri_astore_n (pc := 7) (lv' := [(0, .ref b), (1, .ref q0)]) C [1, 0] rfl rfl (by decide) dL_law_7 ?_
  refine ri_new (pc := 8) (fs := [.int 0, .null, .int 0, .int 0, .int 0, .int 0, .int 0, .int 0, .int 0, .null, .null, .null, .null, .null, .null, .int 0, .null, .null, .null, .null, .int 0, .null, .int 0, .null, .null]) C 6 rfl inlX6 tyX6 tyX6_ok wd_579 wd_580 wd_7 (by decide) (Nat.le_of_ble_eq_true rfl) (Nat.le_of_ble_eq_true rfl) dL_law_8 (fun q1 => ?_)
  refine ri_dup (pc := 11) C rfl dL_law_11 ?_
  refine ri_callI (pc := 12) (wc := ra_LX (zG Z) ad ++ [(q1, .inr (6, [.int 0, .null, .int 0, .int 0, .int 0, .int 0, .int 0, .int 0, .int 0, .null, .null, .null, .null, .null, .null, .int 0, .null, .null, .null, .null, .int 0, .null, .int 0, .null, .null]))]) (wr := []) C (kX6_init (zl Z) (zG Z) ad q1 k r1 r2 wa wb e1 e2) ⟨wd_7, wd_583, by decide, by decide, by decide⟩ rfl wd_582 wd_581 ⟨(Nat.le_of_ble_eq_true rfl), (Nat.le_of_ble_eq_true rfl)⟩ (List.range 135) [] ?_ rfl (by decide +kernel) (by decide) (by decide) ⟨(Nat.le_of_ble_eq_true rfl), (Nat.le_of_ble_eq_true rfl)⟩ (Nat.le_of_ble_eq_true rfl) dL_law_12 ?_
  · have hlen : (ra_LX (zG Z) ad ++ [(q1, Sum.inr (6, [.int 0, .null, .int 0, .int 0, .int 0, .int 0, .int 0, .int 0, .int 0, .null, .null, .null, .null, .null, .null, .int 0, .null, .null, .null, .null, .int 0, .null, .int 0, .null, .null]))] : va_W).length = 135 := by rw [List.length_append, ra_LX_len]; rfl
    apply List.ext_getElem?
    intro i
    rw [List.getElem?_map, List.getElem?_map]
    rcases Nat.lt_or_ge i 135 with h | h
    · rw [List.getElem?_range h, Option.map_some, List.getElem?_eq_getElem (by rw [hlen]; exact h), Option.map_some]
    · rw [List.getElem?_eq_none (by rw [List.length_range]; exact h), List.getElem?_eq_none (by rw [hlen]; exact h)]
      rfl
  intro w1 hp
  obtain ⟨ad2, h1, h2, rfl⟩ := hp
  refine ri_nm (ws' := ra_L (ad2, (zG Z).2) wb) (cs' := 149) (sl' := 1852) rfl rfl rfl ?_
  refine ri_astore_n (pc := 15) (lv' := [(0, .ref b), (1, .ref q0), (2, .ref q1)]) C [1, 2, 0] rfl rfl (by decide) dL_law_15 ?_
  refine ri_iconst (pc := 16) (v := 0) C dL_law_16 (by decide) ?_
  refine ri_istore_n (pc := 17) (lv' := [(0, .ref b), (1, .ref q0), (2, .ref q1), (3, .int 0)]) C [1, 2, 3, 0] rfl rfl (by decide) dL_law_17 ?_
  refine ra_IJ C ⟨Nat.le_of_ble_eq_true rfl, Nat.le_of_ble_eq_true rfl⟩ (fun C2 => ?_)
  have hq0 : q0 = ad2 0 := by rw [h1 0 (by decide), had]
  subst hq0
  subst h2
  obtain ⟨hQ1, hQ2, hQ3, hQ4⟩ := hQ
  exact (tL_law (Z := ra_Z2 Z ad2 149 1852) (b := b) (L := L) (xs := xs) C2 ⟨HX.1, HX.2, fun h => absurd ((hAe b).mp h) (Nat.not_le.mpr HX.2)⟩ ⟨hQ1, hQ2, hQ3, ⟨Nat.le_of_ble_eq_true rfl, Nat.le_of_ble_eq_true rfl⟩, fun q h => (hAe q).mp h, hQ4⟩ k nf).1 0 wb y e3
theorem ra_whole {p : Program} {e : Env} {s : State} {m : MethodId} {below : List Frame} {meth : Method} {c : Code} (l : Launch) {b L k nf : Nat} {xs : Nat → Int32} {r1 r2 : Int32} {wa wb : ra_W} {y : Int32 × ra_W} (C0 : lw_At p s m meth c b L xs) (e1 : FX6_begins k ra_w0 = some (r1, wa)) (e2 : FX6_settles k wa = some (r2, wb)) (e3 : fL_law k L xs nf 0 0 wb = some y) : W p l e room_1 s m #[Value.ref b] below meth c s.heap [] 0 0 (lw_Z below #[Value.ref b] s) (entryFrame m ([Value.ref b] : List Value).toArray 4) := by
  obtain ⟨hx, hb, hr, hml, hown, hts, hX, hbl, hlocks, hgv⟩ := C0
  have hts2 : ∀ w ∈ TW, w.before #[Value.ref b] s = true := fun w h => hts w (TW_tbl w h)
  have hao : va_AO "TrunkRadio$State" s := va_AO.of (hts _ wd_ao)
  obtain ⟨D, cI, cZ, cS, hK⟩ := ra_ids hts2 hao
  have hl := lv_entry ([.ref b]) (n := 4) (Nat.le_of_ble_eq_true rfl)
  rw [lg_entry_eq]
  generalize (lg_sl ([.ref b]) ++ List.replicate (4 - (lg_sl ([.ref b])).length) Slot.unset).toArray = ls at hl ⊢
  have hl : lv_has ls 4 [(0, .ref b)] := hl
  exact law_start (Z := (p, l, e, room_1, s, m, #[Value.ref b], below, meth, c, lw_Z below #[Value.ref b] s, ((fun _ => 0), D, cI, cZ, cS), (fun q : Nat => s.heap.size ≤ q), 0, 0)) (b := b) (L := L) (xs := xs) ⟨⟨hx, hb, hml, hown⟩, hts2, hK, fun q h => h, ⟨Nat.le_of_ble_eq_true rfl, Nat.le_of_ble_eq_true rfl⟩, ⟨Nat.le_of_ble_eq_true rfl, Nat.le_of_ble_eq_true rfl⟩, hlocks, hao⟩ (fun q => Iff.rfl) ⟨hX, hbl⟩ ⟨rfl, rfl, rfl, hr⟩ e1 e2 e3 ls s.heap [] hl (fun k q h => by simp at h) ⟨fun i j p q h => by simp at h, fun k q h => by simp at h⟩ va_S.rf
