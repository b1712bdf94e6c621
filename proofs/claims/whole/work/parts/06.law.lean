def R_law : String := "TrunkRadioLaw"
def lw_P (b : Addr) (xs : List Int32) (args : Array Value) (s : State) : Prop := args = #[.ref b] ∧ s.IntsAt b xs ∧ xs.length ≤ 2560 ∧ (Jvm.Cond.and given_1 narrow_1).before args s = true
def lw_Q (_ : Array Value) (s : State) (o : Outcome) (t : State) : Prop := o = .returned (some (.int 1)) ∧ Framed s o t [] 600000 7302250
def lw_Z (below : List Frame) (a : Array Value) (s : State) : State → Prop := fun t => ∃ o, t.status = .running ∧ Ended t below o ∧ lw_Q a s o t
/-- the law's own end, with 1 on the stack, nothing written that was there before, its room as the claim has it -/
theorem lw_ret {p : Program} {l : Launch} {e : Env} {s : State} {m : MethodId} {below : List Frame} {meth : Method} {c : Code} {b : Nat} (hx : p.tables.exec = Jvm.exec) (hb : c.code = code) (hr : meth.sig.returnType = ret) (hlocks : meth.locks = false) {pc : Nat} {H : Heap} {ls : Array Slot} (hdg : decode code pc = .ok (.ireturn, 1)) : W p l e room_1 s m #[Value.ref b] below meth c H [] 600000 7302250 (lw_Z below #[Value.ref b] s) (F0 m pc ls [.int 1]) := by
  intro T hT X
  obtain ⟨fs, hret, hrun, hended, hW, hframe⟩ := X.leave (v := some (.int 1)) (hlocks := hlocks) (fun h => by rw [hr] at h; cases h)
  have hmeth' : T.vm.method? m = some meth := X.method'
  refine ⟨T.setFrames fs, ?_, .returned (some (.int 1)), hrun, hended, rfl, ⟨_, rfl⟩, hW, hframe⟩
  jvm_step X.here [X.here.top, hx, hb, hdg, hmeth', hr, ret, narrow_b1]
  (try refine ⟨rfl, ?_⟩); (try refine ⟨rfl, ?_⟩)
  first | (intro acts; rw [hret _ acts rfl rfl rfl]) | rw [hret _ _ rfl rfl rfl]
  exact Steps.refl _
/-- what holds at the law's entry: the machine, the code, the tables' words (any of lw_tbl by 'hts w (by decide +kernel)'), the script of L ints xs at the cell b, what the Statement gives of the start (any of its parts by flat_of_before) -/
def lw_At (p : Program) (s : State) (m : MethodId) (meth : Method) (c : Code) (b L : Nat) (xs : Nat → Int32) : Prop :=
  p.tables.exec = Jvm.exec ∧ c.code = code ∧ meth.sig.returnType = ret ∧ c.maxLocals = 4 ∧ s.vm.findClass R_law = some m.cls ∧ (∀ w ∈ lw_tbl, w.before #[Value.ref b] s = true) ∧ va_X b L xs s s.heap ∧ b < s.heap.size ∧ meth.locks = false ∧ (Jvm.Cond.and given_1 narrow_1).before #[Value.ref b] s = true
def ra_X (Z : ra_Z) (b L : Nat) (xs : Nat → Int32) : Prop := va_X b L xs (zs Z) (zs Z).heap ∧ b < (zs Z).heap.size ∧ ¬ zA Z b
def ra_QL (Z : ra_Z) (b : Nat) : Prop := zQ Z = lw_Z (zbl Z) #[Value.ref b] (zs Z) ∧ zar Z = #[Value.ref b] ∧ zR Z = room_1 ∧ (zcl Z ≤ 600000 ∧ zsl Z ≤ 7302250) ∧ (∀ q, zA Z q → (zs Z).heap.size ≤ q) ∧ (zmt Z).sig.returnType = ret
theorem rg_slen {Z : ra_Z} {cc : ByteArray} {nL : Nat} {own : String} {fr lo : Nat} {pc : Nat} {lv : List (Nat × Value)} {st : List Value} {w : ra_W} {b L : Nat} {xs : Nat → Int32} (C : ra_C Z cc nL own fr lo) (HX : ra_X Z b L xs) (hd : decode cc pc = .ok (.arraylength, 1)) (kk : ra_J Z nL (pc + 1) lv (.int (Int32.ofNat L) :: st) w) : ra_J Z nL pc lv (.ref b :: st) w :=
  fun ls H locs hl hP hS => va_slen C.hx C.hb HX.1 HX.2.1 HX.2.2 hS hd (kk ls H locs hl hP hS)
theorem rg_sld {Z : ra_Z} {cc : ByteArray} {nL : Nat} {own : String} {fr lo : Nat} {pc : Nat} {lv : List (Nat × Value)} {st : List Value} {w : ra_W} {b L : Nat} {xs : Nat → Int32} (C : ra_C Z cc nL own fr lo) (HX : ra_X Z b L xs) {i : Int32} (hin : ra_in i L) (hd : decode cc pc = .ok (.iaload, 1)) (kk : ra_J Z nL (pc + 1) lv (.int (xs (ra_ix i)) :: st) w) : ra_J Z nL pc lv (.int i :: .ref b :: st) w :=
  fun ls H locs hl hP hS => va_sld C.hx C.hb HX.1 HX.2.1 HX.2.2 hS hin hd (kk ls H locs hl hP hS)
theorem rg_lret {Z : ra_Z} {nL : Nat} {own : String} {fr lo : Nat} {pc : Nat} {lv : List (Nat × Value)} {w : ra_W} {b : Nat} (C : ra_C Z code nL own fr lo) (hQ : ra_QL Z b) (hd : decode code pc = .ok (.ireturn, 1)) : ra_J Z nL pc lv [.int 1] w := by
  intro ls H locs hl hP hS
  obtain ⟨h1, h2, h3, h4, h5, h6⟩ := hQ
  refine va_forget (fun q hq => h5 _ (hS.2.2 q hq)) ?_
  refine W.widen (k := 600000) (n := 7302250) h4.1 h4.2 ?_
  rw [h1, h2, h3]
  exact lw_ret C.hx C.hb h6 C.hlk hd
def fL_law (k L : Nat) (xs : Nat → Int32) : Nat → Nat → Int32 → ra_W → Option (Int32 × ra_W)
  | 0, _, _, _ => none
  | n + 1, Lb, v3, w => match Lb with
    | 0 => if ((Int32.ofNat L) - 5) < v3 then (some (1, w)) else (if ra_in v3 L then if ((xs (ra_ix v3)) &&& 31) = 0 then (if ra_in (v3 + 1) L then ra_bind (FX5_type k (xs (ra_ix (v3 + 1))) w) (fun r5 w6 => ra_bind (FX6_type k (xs (ra_ix (v3 + 1))) w6) (fun r8 w9 => if r5 = r8 then (fL_law k L xs n 1 v3 w9) else (none))) else none) else (if ((xs (ra_ix v3)) &&& 31) = 1 then (ra_bind (FX5_clear k w) (fun r13 w14 => ra_bind (FX6_clear k w14) (fun r16 w17 => if r13 = r16 then (fL_law k L xs n 1 v3 w17) else (none)))) else (if ((xs (ra_ix v3)) &&& 31) = 2 then (ra_bind (FX5_net k w) (fun r21 w22 => ra_bind (FX6_net k w22) (fun r24 w25 => if r21 = r24 then (fL_law k L xs n 1 v3 w25) else (none)))) else (if ((xs (ra_ix v3)) &&& 31) = 3 then (if ra_in (v3 + 1) L then ra_bind (FX5_ticks k (xs (ra_ix (v3 + 1))) w) (fun r30 w31 => ra_bind (FX6_ticks k (xs (ra_ix (v3 + 1))) w31) (fun r33 w34 => if r30 = r33 then (fL_law k L xs n 1 v3 w34) else (none))) else none) else (if ((xs (ra_ix v3)) &&& 31) = 4 then (if ra_in (v3 + 1) L then if ra_in (v3 + 2) L then ra_bind (FX5_presses k (xs (ra_ix (v3 + 1))) (xs (ra_ix (v3 + 2))) w) (fun r40 w41 => ra_bind (FX6_presses k (xs (ra_ix (v3 + 1))) (xs (ra_ix (v3 + 2))) w41) (fun r43 w44 => if r40 = r43 then (fL_law k L xs n 1 v3 w44) else (none))) else none else none) else (if ((xs (ra_ix v3)) &&& 31) = 5 then (if ra_in (v3 + 1) L then ra_bind (FX5_releases k (xs (ra_ix (v3 + 1))) w) (fun r49 w50 => ra_bind (FX6_releases k (xs (ra_ix (v3 + 1))) w50) (fun r52 w53 => if r49 = r52 then (fL_law k L xs n 1 v3 w53) else (none))) else none) else (if ((xs (ra_ix v3)) &&& 31) = 6 then (if ra_in (v3 + 1) L then if ra_in (v3 + 2) L then ra_bind (FX5_controls k (xs (ra_ix (v3 + 1))) (xs (ra_ix (v3 + 2))) w) (fun r59 w60 => ra_bind (FX6_controls k (xs (ra_ix (v3 + 1))) (xs (ra_ix (v3 + 2))) w60) (fun r62 w63 => if r59 = r62 then (fL_law k L xs n 1 v3 w63) else (none))) else none else none) else (if ((xs (ra_ix v3)) &&& 31) = 7 then (if ra_in (v3 + 1) L then ra_bind (FX5_moves k (xs (ra_ix (v3 + 1))) w) (fun r68 w69 => ra_bind (FX6_moves k (xs (ra_ix (v3 + 1))) w69) (fun r71 w72 => if r68 = r71 then (fL_law k L xs n 1 v3 w72) else (none))) else none) else (if ((xs (ra_ix v3)) &&& 31) = 8 then (ra_bind (FX5_undo k w) (fun r76 w77 => ra_bind (FX6_undo k w77) (fun r79 w80 => if r76 = r79 then (fL_law k L xs n 1 v3 w80) else (none)))) else (if ((xs (ra_ix v3)) &&& 31) = 9 then (if ra_in (v3 + 1) L then if ra_in (v3 + 2) L then ra_bind (FX5_radio k (xs (ra_ix (v3 + 1))) (xs (ra_ix (v3 + 2))) w) (fun r86 w87 => ra_bind (FX6_radio k (xs (ra_ix (v3 + 1))) (xs (ra_ix (v3 + 2))) w87) (fun r89 w90 => if r86 = r89 then (fL_law k L xs n 1 v3 w90) else (none))) else none else none) else (if ((xs (ra_ix v3)) &&& 31) = 10 then (if ra_in (v3 + 1) L then if ra_in (v3 + 2) L then ra_bind (FX5_site k (xs (ra_ix (v3 + 1))) (xs (ra_ix (v3 + 2))) w) (fun r96 w97 => ra_bind (FX6_site k (xs (ra_ix (v3 + 1))) (xs (ra_ix (v3 + 2))) w97) (fun r99 w100 => if r96 = r99 then (fL_law k L xs n 1 v3 w100) else (none))) else none else none) else (if ((xs (ra_ix v3)) &&& 31) = 11 then (if ra_in (v3 + 1) L then ra_bind (FX5_talker k (xs (ra_ix (v3 + 1))) w) (fun r105 w106 => ra_bind (FX6_talker k (xs (ra_ix (v3 + 1))) w106) (fun r108 w109 => if r105 = r108 then (fL_law k L xs n 1 v3 w109) else (none))) else none) else (if ((xs (ra_ix v3)) &&& 31) = 12 then (if ra_in (v3 + 1) L then ra_bind (FX5_queue k (xs (ra_ix (v3 + 1))) w) (fun r114 w115 => ra_bind (FX6_queue k (xs (ra_ix (v3 + 1))) w115) (fun r117 w118 => if r114 = r117 then (fL_law k L xs n 1 v3 w118) else (none))) else none) else (if ((xs (ra_ix v3)) &&& 31) = 13 then (if ra_in (v3 + 1) L then ra_bind (FX5_soon k (xs (ra_ix (v3 + 1))) w) (fun r123 w124 => ra_bind (FX6_soon k (xs (ra_ix (v3 + 1))) w124) (fun r126 w127 => if r123 = r126 then (fL_law k L xs n 1 v3 w127) else (none))) else none) else (if ((xs (ra_ix v3)) &&& 31) = 14 then (if ra_in (v3 + 1) L then if ra_in (v3 + 2) L then ra_bind (FX5_within k (xs (ra_ix (v3 + 1))) (xs (ra_ix (v3 + 2))) w) (fun r133 w134 => ra_bind (FX6_within k (xs (ra_ix (v3 + 1))) (xs (ra_ix (v3 + 2))) w134) (fun r136 w137 => if r133 = r136 then (fL_law k L xs n 1 v3 w137) else (none))) else none else none) else (if ((xs (ra_ix v3)) &&& 31) = 15 then (if ra_in (v3 + 1) L then if ra_in (v3 + 2) L then ra_bind (FX5_wave k (xs (ra_ix (v3 + 1))) (xs (ra_ix (v3 + 2))) w) (fun r143 w144 => ra_bind (FX6_wave k (xs (ra_ix (v3 + 1))) (xs (ra_ix (v3 + 2))) w144) (fun r146 w147 => if r143 = r146 then (fL_law k L xs n 1 v3 w147) else (none))) else none else none) else (if ((xs (ra_ix v3)) &&& 31) = 16 then (if ra_in (v3 + 1) L then if ra_in (v3 + 2) L then if ra_in (v3 + 3) L then if ra_in (v3 + 4) L then ra_bind (FX5_odds k (xs (ra_ix (v3 + 1))) (xs (ra_ix (v3 + 2))) (xs (ra_ix (v3 + 3))) (xs (ra_ix (v3 + 4))) w) (fun r155 w156 => ra_bind (FX6_odds k (xs (ra_ix (v3 + 1))) (xs (ra_ix (v3 + 2))) (xs (ra_ix (v3 + 3))) (xs (ra_ix (v3 + 4))) w156) (fun r158 w159 => if r155 = r158 then (fL_law k L xs n 1 v3 w159) else (none))) else none else none else none else none) else (if ((xs (ra_ix v3)) &&& 31) = 17 then (if ra_in (v3 + 1) L then if ra_in (v3 + 2) L then ra_bind (FX5_sees k (xs (ra_ix (v3 + 1))) (xs (ra_ix (v3 + 2))) w) (fun r165 w166 => ra_bind (FX6_sees k (xs (ra_ix (v3 + 1))) (xs (ra_ix (v3 + 2))) w166) (fun r168 w169 => if r165 = r168 then (fL_law k L xs n 1 v3 w169) else (none))) else none else none) else (if ((xs (ra_ix v3)) &&& 31) = 18 then (ra_bind (FX5_forget k w) (fun r173 w174 => ra_bind (FX6_forget k w174) (fun r176 w177 => if r173 = r176 then (fL_law k L xs n 1 v3 w177) else (none)))) else (if ((xs (ra_ix v3)) &&& 31) = 19 then (if ra_in (v3 + 1) L then ra_bind (FX5_ranks k (xs (ra_ix (v3 + 1))) w) (fun r182 w183 => ra_bind (FX6_ranks k (xs (ra_ix (v3 + 1))) w183) (fun r185 w186 => if r182 = r185 then (fL_law k L xs n 1 v3 w186) else (none))) else none) else (if ((xs (ra_ix v3)) &&& 31) = 20 then (if ra_in (v3 + 1) L then ra_bind (FX5_look k (xs (ra_ix (v3 + 1))) w) (fun r191 w192 => ra_bind (FX6_look k (xs (ra_ix (v3 + 1))) w192) (fun r194 w195 => if r191 = r194 then (fL_law k L xs n 1 v3 w195) else (none))) else none) else (if ((xs (ra_ix v3)) &&& 31) = 21 then (if ra_in (v3 + 1) L then ra_bind (FX5_keep k (xs (ra_ix (v3 + 1))) w) (fun r200 w201 => ra_bind (FX6_keep k (xs (ra_ix (v3 + 1))) w201) (fun r203 w204 => if r200 = r203 then (fL_law k L xs n 1 v3 w204) else (none))) else none) else (if ((xs (ra_ix v3)) &&& 31) = 22 then (if ra_in (v3 + 1) L then ra_bind (FX5_back k (xs (ra_ix (v3 + 1))) w) (fun r209 w210 => ra_bind (FX6_back k (xs (ra_ix (v3 + 1))) w210) (fun r212 w213 => if r209 = r212 then (fL_law k L xs n 1 v3 w213) else (none))) else none) else (if ((xs (ra_ix v3)) &&& 31) = 23 then (if ra_in (v3 + 1) L then ra_bind (FX5_count k (xs (ra_ix (v3 + 1))) w) (fun r218 w219 => ra_bind (FX6_count k (xs (ra_ix (v3 + 1))) w219) (fun r221 w222 => if r218 = r221 then (fL_law k L xs n 1 v3 w222) else (none))) else none) else (fL_law k L xs n 1 v3 w)))))))))))))))))))))))) else none)
    | _ => fL_law k L xs n 0 (v3 + 5) w
theorem fL_law_0 (k L : Nat) (xs : Nat → Int32) (n : Nat) (v3 : Int32) (w : ra_W) : fL_law k L xs (n + 1) 0 v3 w = (if ((Int32.ofNat L) - 5) < v3 then (some (1, w)) else (if ra_in v3 L then if ((xs (ra_ix v3)) &&& 31) = 0 then (if ra_in (v3 + 1) L then ra_bind (FX5_type k (xs (ra_ix (v3 + 1))) w) (fun r5 w6 => ra_bind (FX6_type k (xs (ra_ix (v3 + 1))) w6) (fun r8 w9 => if r5 = r8 then (fL_law k L xs n 1 v3 w9) else (none))) else none) else (if ((xs (ra_ix v3)) &&& 31) = 1 then (ra_bind (FX5_clear k w) (fun r13 w14 => ra_bind (FX6_clear k w14) (fun r16 w17 => if r13 = r16 then (fL_law k L xs n 1 v3 w17) else (none)))) else (if ((xs (ra_ix v3)) &&& 31) = 2 then (ra_bind (FX5_net k w) (fun r21 w22 => ra_bind (FX6_net k w22) (fun r24 w25 => if r21 = r24 then (fL_law k L xs n 1 v3 w25) else (none)))) else (if ((xs (ra_ix v3)) &&& 31) = 3 then (if ra_in (v3 + 1) L then ra_bind (FX5_ticks k (xs (ra_ix (v3 + 1))) w) (fun r30 w31 => ra_bind (FX6_ticks k (xs (ra_ix (v3 + 1))) w31) (fun r33 w34 => if r30 = r33 then (fL_law k L xs n 1 v3 w34) else (none))) else none) else (if ((xs (ra_ix v3)) &&& 31) = 4 then (if ra_in (v3 + 1) L then if ra_in (v3 + 2) L then ra_bind (FX5_presses k (xs (ra_ix (v3 + 1))) (xs (ra_ix (v3 + 2))) w) (fun r40 w41 => ra_bind (FX6_presses k (xs (ra_ix (v3 + 1))) (xs (ra_ix (v3 + 2))) w41) (fun r43 w44 => if r40 = r43 then (fL_law k L xs n 1 v3 w44) else (none))) else none else none) else (if ((xs (ra_ix v3)) &&& 31) = 5 then (if ra_in (v3 + 1) L then ra_bind (FX5_releases k (xs (ra_ix (v3 + 1))) w) (fun r49 w50 => ra_bind (FX6_releases k (xs (ra_ix (v3 + 1))) w50) (fun r52 w53 => if r49 = r52 then (fL_law k L xs n 1 v3 w53) else (none))) else none) else (if ((xs (ra_ix v3)) &&& 31) = 6 then (if ra_in (v3 + 1) L then if ra_in (v3 + 2) L then ra_bind (FX5_controls k (xs (ra_ix (v3 + 1))) (xs (ra_ix (v3 + 2))) w) (fun r59 w60 => ra_bind (FX6_controls k (xs (ra_ix (v3 + 1))) (xs (ra_ix (v3 + 2))) w60) (fun r62 w63 => if r59 = r62 then (fL_law k L xs n 1 v3 w63) else (none))) else none else none) else (if ((xs (ra_ix v3)) &&& 31) = 7 then (if ra_in (v3 + 1) L then ra_bind (FX5_moves k (xs (ra_ix (v3 + 1))) w) (fun r68 w69 => ra_bind (FX6_moves k (xs (ra_ix (v3 + 1))) w69) (fun r71 w72 => if r68 = r71 then (fL_law k L xs n 1 v3 w72) else (none))) else none) else (if ((xs (ra_ix v3)) &&& 31) = 8 then (ra_bind (FX5_undo k w) (fun r76 w77 => ra_bind (FX6_undo k w77) (fun r79 w80 => if r76 = r79 then (fL_law k L xs n 1 v3 w80) else (none)))) else (if ((xs (ra_ix v3)) &&& 31) = 9 then (if ra_in (v3 + 1) L then if ra_in (v3 + 2) L then ra_bind (FX5_radio k (xs (ra_ix (v3 + 1))) (xs (ra_ix (v3 + 2))) w) (fun r86 w87 => ra_bind (FX6_radio k (xs (ra_ix (v3 + 1))) (xs (ra_ix (v3 + 2))) w87) (fun r89 w90 => if r86 = r89 then (fL_law k L xs n 1 v3 w90) else (none))) else none else none) else (if ((xs (ra_ix v3)) &&& 31) = 10 then (if ra_in (v3 + 1) L then if ra_in (v3 + 2) L then ra_bind (FX5_site k (xs (ra_ix (v3 + 1))) (xs (ra_ix (v3 + 2))) w) (fun r96 w97 => ra_bind (FX6_site k (xs (ra_ix (v3 + 1))) (xs (ra_ix (v3 + 2))) w97) (fun r99 w100 => if r96 = r99 then (fL_law k L xs n 1 v3 w100) else (none))) else none else none) else (if ((xs (ra_ix v3)) &&& 31) = 11 then (if ra_in (v3 + 1) L then ra_bind (FX5_talker k (xs (ra_ix (v3 + 1))) w) (fun r105 w106 => ra_bind (FX6_talker k (xs (ra_ix (v3 + 1))) w106) (fun r108 w109 => if r105 = r108 then (fL_law k L xs n 1 v3 w109) else (none))) else none) else (if ((xs (ra_ix v3)) &&& 31) = 12 then (if ra_in (v3 + 1) L then ra_bind (FX5_queue k (xs (ra_ix (v3 + 1))) w) (fun r114 w115 => ra_bind (FX6_queue k (xs (ra_ix (v3 + 1))) w115) (fun r117 w118 => if r114 = r117 then (fL_law k L xs n 1 v3 w118) else (none))) else none) else (if ((xs (ra_ix v3)) &&& 31) = 13 then (if ra_in (v3 + 1) L then ra_bind (FX5_soon k (xs (ra_ix (v3 + 1))) w) (fun r123 w124 => ra_bind (FX6_soon k (xs (ra_ix (v3 + 1))) w124) (fun r126 w127 => if r123 = r126 then (fL_law k L xs n 1 v3 w127) else (none))) else none) else (if ((xs (ra_ix v3)) &&& 31) = 14 then (if ra_in (v3 + 1) L then if ra_in (v3 + 2) L then ra_bind (FX5_within k (xs (ra_ix (v3 + 1))) (xs (ra_ix (v3 + 2))) w) (fun r133 w134 => ra_bind (FX6_within k (xs (ra_ix (v3 + 1))) (xs (ra_ix (v3 + 2))) w134) (fun r136 w137 => if r133 = r136 then (fL_law k L xs n 1 v3 w137) else (none))) else none else none) else (if ((xs (ra_ix v3)) &&& 31) = 15 then (if ra_in (v3 + 1) L then if ra_in (v3 + 2) L then ra_bind (FX5_wave k (xs (ra_ix (v3 + 1))) (xs (ra_ix (v3 + 2))) w) (fun r143 w144 => ra_bind (FX6_wave k (xs (ra_ix (v3 + 1))) (xs (ra_ix (v3 + 2))) w144) (fun r146 w147 => if r143 = r146 then (fL_law k L xs n 1 v3 w147) else (none))) else none else none) else (if ((xs (ra_ix v3)) &&& 31) = 16 then (if ra_in (v3 + 1) L then if ra_in (v3 + 2) L then if ra_in (v3 + 3) L then if ra_in (v3 + 4) L then ra_bind (FX5_odds k (xs (ra_ix (v3 + 1))) (xs (ra_ix (v3 + 2))) (xs (ra_ix (v3 + 3))) (xs (ra_ix (v3 + 4))) w) (fun r155 w156 => ra_bind (FX6_odds k (xs (ra_ix (v3 + 1))) (xs (ra_ix (v3 + 2))) (xs (ra_ix (v3 + 3))) (xs (ra_ix (v3 + 4))) w156) (fun r158 w159 => if r155 = r158 then (fL_law k L xs n 1 v3 w159) else (none))) else none else none else none else none) else (if ((xs (ra_ix v3)) &&& 31) = 17 then (if ra_in (v3 + 1) L then if ra_in (v3 + 2) L then ra_bind (FX5_sees k (xs (ra_ix (v3 + 1))) (xs (ra_ix (v3 + 2))) w) (fun r165 w166 => ra_bind (FX6_sees k (xs (ra_ix (v3 + 1))) (xs (ra_ix (v3 + 2))) w166) (fun r168 w169 => if r165 = r168 then (fL_law k L xs n 1 v3 w169) else (none))) else none else none) else (if ((xs (ra_ix v3)) &&& 31) = 18 then (ra_bind (FX5_forget k w) (fun r173 w174 => ra_bind (FX6_forget k w174) (fun r176 w177 => if r173 = r176 then (fL_law k L xs n 1 v3 w177) else (none)))) else (if ((xs (ra_ix v3)) &&& 31) = 19 then (if ra_in (v3 + 1) L then ra_bind (FX5_ranks k (xs (ra_ix (v3 + 1))) w) (fun r182 w183 => ra_bind (FX6_ranks k (xs (ra_ix (v3 + 1))) w183) (fun r185 w186 => if r182 = r185 then (fL_law k L xs n 1 v3 w186) else (none))) else none) else (if ((xs (ra_ix v3)) &&& 31) = 20 then (if ra_in (v3 + 1) L then ra_bind (FX5_look k (xs (ra_ix (v3 + 1))) w) (fun r191 w192 => ra_bind (FX6_look k (xs (ra_ix (v3 + 1))) w192) (fun r194 w195 => if r191 = r194 then (fL_law k L xs n 1 v3 w195) else (none))) else none) else (if ((xs (ra_ix v3)) &&& 31) = 21 then (if ra_in (v3 + 1) L then ra_bind (FX5_keep k (xs (ra_ix (v3 + 1))) w) (fun r200 w201 => ra_bind (FX6_keep k (xs (ra_ix (v3 + 1))) w201) (fun r203 w204 => if r200 = r203 then (fL_law k L xs n 1 v3 w204) else (none))) else none) else (if ((xs (ra_ix v3)) &&& 31) = 22 then (if ra_in (v3 + 1) L then ra_bind (FX5_back k (xs (ra_ix (v3 + 1))) w) (fun r209 w210 => ra_bind (FX6_back k (xs (ra_ix (v3 + 1))) w210) (fun r212 w213 => if r209 = r212 then (fL_law k L xs n 1 v3 w213) else (none))) else none) else (if ((xs (ra_ix v3)) &&& 31) = 23 then (if ra_in (v3 + 1) L then ra_bind (FX5_count k (xs (ra_ix (v3 + 1))) w) (fun r218 w219 => ra_bind (FX6_count k (xs (ra_ix (v3 + 1))) w219) (fun r221 w222 => if r218 = r221 then (fL_law k L xs n 1 v3 w222) else (none))) else none) else (fL_law k L xs n 1 v3 w)))))))))))))))))))))))) else none)) := rfl
theorem fL_law_1 (k L : Nat) (xs : Nat → Int32) (n : Nat) (v3 : Int32) (w : ra_W) : fL_law k L xs (n + 1) 1 v3 w = (fL_law k L xs n 0 (v3 + 5) w) := rfl
def pL_law_0 (Z : ra_Z) (b k L : Nat) (xs : Nat → Int32) (n : Nat) : Prop := ∀ (v3 : Int32) (w : ra_W) (y : Int32 × ra_W), fL_law k L xs n 0 v3 w = some y → ra_J Z 4 18 [(0, .ref b), (1, .ref ((zG Z).1 0)), (2, .ref ((zG Z).1 134)), (3, .int v3)] [] w
def pL_law_1 (Z : ra_Z) (b k L : Nat) (xs : Nat → Int32) (n : Nat) : Prop := ∀ (v3 : Int32) (w : ra_W) (y : Int32 × ra_W), fL_law k L xs n 1 v3 w = some y → ra_J Z 4 756 [(0, .ref b), (1, .ref ((zG Z).1 0)), (2, .ref ((zG Z).1 134)), (3, .int v3)] [] w
set_option maxHeartbeats 4000000 in
theorem tL_law_0 {Z : ra_Z} {b L : Nat} {xs : Nat → Int32} (C : ra_C Z code 4 RL 10 382) (HX : ra_X Z b L xs) (hQ : ra_QL Z b) (k : Nat) (n : Nat) (ih1 : pL_law_1 Z b k L xs n) : pL_law_0 Z b k L xs (n + 1) := by
  intro v3 w y hf
  rw [fL_law_0] at hf
  refine rg_iload_n (pc := 18) C 3 rfl rfl dL_law_18 ?_
  refine rg_aload_n (pc := 19) C 0 rfl rfl dL_law_19 ?_
  refine rg_slen (pc := 20) C HX dL_law_20 ?_
  refine rg_iconst (pc := 21) (v := 5) C dL_law_21 (by decide) ?_
  refine rg_isub (pc := 22) C dL_law_22 ?_
  refine rg_icmp_gt (pc := 23) (tgt := 762) C dL_law_23 (by decide) (fun c1 => ?_) (fun c1 => ?_)
  · replace hf := ra_t hf c1
    refine rg_iconst (pc := 762) (v := 1) C dL_law_762 (by decide) ?_
    exact rg_lret (pc := 763) C hQ dL_law_763
  · replace hf := ra_f hf c1
    refine rg_aload_n (pc := 26) C 0 rfl rfl dL_law_26 ?_
    refine rg_iload_n (pc := 27) C 3 rfl rfl dL_law_27 ?_
    obtain ⟨g2, hf⟩ := ra_gd hf
    refine rg_sld (pc := 28) C HX g2 dL_law_28 ?_
    refine rg_bipush (pc := 29) (v := 31) C dL_law_29 (by decide) ?_
    refine rg_iand (pc := 31) C dL_law_31 ?_
    by_cases c3 : ((xs (ra_ix v3)) &&& 31) = 0
    · replace hf := ra_t hf c3
      refine rg_tableK (pc := 32) (off := 112) (tgt := 144) C 0 c3 dL_law_32 (by decide) (by decide) (by decide) (by decide) ?_
      refine rg_aload_n (pc := 144) C 1 rfl rfl dL_law_144 ?_
      refine rg_aload_n (pc := 145) C 0 rfl rfl dL_law_145 ?_
      refine rg_iload_n (pc := 146) C 3 rfl rfl dL_law_146 ?_
      refine rg_iconst (pc := 147) (v := 1) C dL_law_147 (by decide) ?_
      refine rg_iadd (pc := 148) C dL_law_148 ?_
      obtain ⟨g4, hf⟩ := ra_gd hf
      refine rg_sld (pc := 149) C HX g4 dL_law_149 ?_
      obtain ⟨r5, w6, e7, hf⟩ := ra_bd hf
      refine rg_callVI (pc := 150) (As := [.int (xs (ra_ix (v3 + 1)))]) (st := []) C (kX5_type (zl Z) (zG Z) C.hj k _ _ _ _ e7) kd_0 (by decide) rfl ysX5_type rfl wd_241 ⟨Nat.le_of_ble_eq_true rfl, Nat.le_of_ble_eq_true rfl⟩ rfl (Nat.le_of_ble_eq_true rfl) dL_law_150 ?_
      refine rg_aload_n (pc := 153) C 2 rfl rfl dL_law_153 ?_
      refine rg_aload_n (pc := 154) C 0 rfl rfl dL_law_154 ?_
      refine rg_iload_n (pc := 155) C 3 rfl rfl dL_law_155 ?_
      refine rg_iconst (pc := 156) (v := 1) C dL_law_156 (by decide) ?_
      refine rg_iadd (pc := 157) C dL_law_157 ?_
      refine rg_sld (pc := 158) C HX g4 dL_law_158 ?_
      obtain ⟨r8, w9, e10, hf⟩ := ra_bd hf
      refine rg_callVI (pc := 159) (As := [.int (xs (ra_ix (v3 + 1)))]) (st := [.int r5]) C (kX6_type (zl Z) (zG Z) C.hj k _ _ _ _ e10) kd_134 (by decide) rfl ysX6_type rfl wd_673 ⟨Nat.le_of_ble_eq_true rfl, Nat.le_of_ble_eq_true rfl⟩ rfl (Nat.le_of_ble_eq_true rfl) dL_law_159 ?_
      refine rg_icmp_eq (pc := 162) (tgt := 756) C dL_law_162 (by decide) (fun c11 => ?_) (fun c11 => ?_)
      · replace hf := ra_t hf c11
        exact ih1 _ _ _ hf
      · replace hf := ra_f hf c11
        refine rg_iconst (pc := 165) (v := 0) C dL_law_165 (by decide) ?_
        cases hf
    · replace hf := ra_f hf c3
      by_cases c12 : ((xs (ra_ix v3)) &&& 31) = 1
      · replace hf := ra_t hf c12
        refine rg_tableK (pc := 32) (off := 135) (tgt := 167) C 1 c12 dL_law_32 (by decide) (by decide) (by decide) (by decide) ?_
        refine rg_aload_n (pc := 167) C 1 rfl rfl dL_law_167 ?_
        obtain ⟨r13, w14, e15, hf⟩ := ra_bd hf
        refine rg_callVI (pc := 168) (As := []) (st := []) C (kX5_clear (zl Z) (zG Z) C.hj k _ _ _ e15) kd_0 (by decide) rfl ysX5_clear rfl wd_249 ⟨Nat.le_of_ble_eq_true rfl, Nat.le_of_ble_eq_true rfl⟩ rfl (Nat.le_of_ble_eq_true rfl) dL_law_168 ?_
        refine rg_aload_n (pc := 171) C 2 rfl rfl dL_law_171 ?_
        obtain ⟨r16, w17, e18, hf⟩ := ra_bd hf
        refine rg_callVI (pc := 172) (As := []) (st := [.int r13]) C (kX6_clear (zl Z) (zG Z) C.hj k _ _ _ e18) kd_134 (by decide) rfl ysX6_clear rfl wd_680 ⟨Nat.le_of_ble_eq_true rfl, Nat.le_of_ble_eq_true rfl⟩ rfl (Nat.le_of_ble_eq_true rfl) dL_law_172 ?_
        refine rg_icmp_eq (pc := 175) (tgt := 756) C dL_law_175 (by decide) (fun c19 => ?_) (fun c19 => ?_)
        · replace hf := ra_t hf c19
          exact ih1 _ _ _ hf
        · replace hf := ra_f hf c19
          refine rg_iconst (pc := 178) (v := 0) C dL_law_178 (by decide) ?_
          cases hf
      · replace hf := ra_f hf c12
        by_cases c20 : ((xs (ra_ix v3)) &&& 31) = 2
        · replace hf := ra_t hf c20
          refine rg_tableK (pc := 32) (off := 148) (tgt := 180) C 2 c20 dL_law_32 (by decide) (by decide) (by decide) (by decide) ?_
          refine rg_aload_n (pc := 180) C 1 rfl rfl dL_law_180 ?_
          obtain ⟨r21, w22, e23, hf⟩ := ra_bd hf
          refine rg_callVI (pc := 181) (As := []) (st := []) C (kX5_net (zl Z) (zG Z) C.hj k _ _ _ e23) kd_0 (by decide) rfl ysX5_net rfl wd_257 ⟨Nat.le_of_ble_eq_true rfl, Nat.le_of_ble_eq_true rfl⟩ rfl (Nat.le_of_ble_eq_true rfl) dL_law_181 ?_
          refine rg_aload_n (pc := 184) C 2 rfl rfl dL_law_184 ?_
          obtain ⟨r24, w25, e26, hf⟩ := ra_bd hf
          refine rg_callVI (pc := 185) (As := []) (st := [.int r21]) C (kX6_net (zl Z) (zG Z) C.hj k _ _ _ e26) kd_134 (by decide) rfl ysX6_net rfl wd_684 ⟨Nat.le_of_ble_eq_true rfl, Nat.le_of_ble_eq_true rfl⟩ rfl (Nat.le_of_ble_eq_true rfl) dL_law_185 ?_
          refine rg_icmp_eq (pc := 188) (tgt := 756) C dL_law_188 (by decide) (fun c27 => ?_) (fun c27 => ?_)
          · replace hf := ra_t hf c27
            exact ih1 _ _ _ hf
          · replace hf := ra_f hf c27
            refine rg_iconst (pc := 191) (v := 0) C dL_law_191 (by decide) ?_
            cases hf
        · replace hf := ra_f hf c20
          by_cases c28 : ((xs (ra_ix v3)) &&& 31) = 3
          · replace hf := ra_t hf c28
            refine rg_tableK (pc := 32) (off := 161) (tgt := 193) C 3 c28 dL_law_32 (by decide) (by decide) (by decide) (by decide) ?_
            refine rg_aload_n (pc := 193) C 1 rfl rfl dL_law_193 ?_
            refine rg_aload_n (pc := 194) C 0 rfl rfl dL_law_194 ?_
            refine rg_iload_n (pc := 195) C 3 rfl rfl dL_law_195 ?_
            refine rg_iconst (pc := 196) (v := 1) C dL_law_196 (by decide) ?_
            refine rg_iadd (pc := 197) C dL_law_197 ?_
            obtain ⟨g29, hf⟩ := ra_gd hf
            refine rg_sld (pc := 198) C HX g29 dL_law_198 ?_
            obtain ⟨r30, w31, e32, hf⟩ := ra_bd hf
            refine rg_callVI (pc := 199) (As := [.int (xs (ra_ix (v3 + 1)))]) (st := []) C (kX5_ticks (zl Z) (zG Z) C.hj k _ _ _ _ e32) kd_0 (by decide) rfl ysX5_ticks rfl wd_335 ⟨Nat.le_of_ble_eq_true rfl, Nat.le_of_ble_eq_true rfl⟩ rfl (Nat.le_of_ble_eq_true rfl) dL_law_199 ?_
            refine rg_aload_n (pc := 202) C 2 rfl rfl dL_law_202 ?_
            refine rg_aload_n (pc := 203) C 0 rfl rfl dL_law_203 ?_
            refine rg_iload_n (pc := 204) C 3 rfl rfl dL_law_204 ?_
            refine rg_iconst (pc := 205) (v := 1) C dL_law_205 (by decide) ?_
            refine rg_iadd (pc := 206) C dL_law_206 ?_
            refine rg_sld (pc := 207) C HX g29 dL_law_207 ?_
            obtain ⟨r33, w34, e35, hf⟩ := ra_bd hf
            refine rg_callVI (pc := 208) (As := [.int (xs (ra_ix (v3 + 1)))]) (st := [.int r30]) C (kX6_ticks (zl Z) (zG Z) C.hj k _ _ _ _ e35) kd_134 (by decide) rfl ysX6_ticks rfl wd_719 ⟨Nat.le_of_ble_eq_true rfl, Nat.le_of_ble_eq_true rfl⟩ rfl (Nat.le_of_ble_eq_true rfl) dL_law_208 ?_
            refine rg_icmp_eq (pc := 211) (tgt := 756) C dL_law_211 (by decide) (fun c36 => ?_) (fun c36 => ?_)
            · replace hf := ra_t hf c36
              exact ih1 _ _ _ hf
            · replace hf := ra_f hf c36
              refine rg_iconst (pc := 214) (v := 0) C dL_law_214 (by decide) ?_
              cases hf
          · replace hf := ra_f hf c28
            by_cases c37 : ((xs (ra_ix v3)) &&& 31) = 4
            · replace hf := ra_t hf c37
              refine rg_tableK (pc := 32) (off := 184) (tgt := 216) C 4 c37 dL_law_32 (by decide) (by decide) (by decide) (by decide) ?_
              refine rg_aload_n (pc := 216) C 1 rfl rfl dL_law_216 ?_
              refine rg_aload_n (pc := 217) C 0 rfl rfl dL_law_217 ?_
              refine rg_iload_n (pc := 218) C 3 rfl rfl dL_law_218 ?_
              refine rg_iconst (pc := 219) (v := 1) C dL_law_219 (by decide) ?_
              refine rg_iadd (pc := 220) C dL_law_220 ?_
              obtain ⟨g38, hf⟩ := ra_gd hf
              refine rg_sld (pc := 221) C HX g38 dL_law_221 ?_
              refine rg_aload_n (pc := 222) C 0 rfl rfl dL_law_222 ?_
              refine rg_iload_n (pc := 223) C 3 rfl rfl dL_law_223 ?_
              refine rg_iconst (pc := 224) (v := 2) C dL_law_224 (by decide) ?_
              refine rg_iadd (pc := 225) C dL_law_225 ?_
              obtain ⟨g39, hf⟩ := ra_gd hf
              refine rg_sld (pc := 226) C HX g39 dL_law_226 ?_
              obtain ⟨r40, w41, e42, hf⟩ := ra_bd hf
              refine rg_callVI (pc := 227) (As := [.int (xs (ra_ix (v3 + 1))), .int (xs (ra_ix (v3 + 2)))]) (st := []) C (kX5_presses (zl Z) (zG Z) C.hj k _ _ _ _ _ e42) kd_0 (by decide) rfl ysX5_presses rfl wd_421 ⟨Nat.le_of_ble_eq_true rfl, Nat.le_of_ble_eq_true rfl⟩ rfl (Nat.le_of_ble_eq_true rfl) dL_law_227 ?_
              refine rg_aload_n (pc := 230) C 2 rfl rfl dL_law_230 ?_
              refine rg_aload_n (pc := 231) C 0 rfl rfl dL_law_231 ?_
              refine rg_iload_n (pc := 232) C 3 rfl rfl dL_law_232 ?_
              refine rg_iconst (pc := 233) (v := 1) C dL_law_233 (by decide) ?_
              refine rg_iadd (pc := 234) C dL_law_234 ?_
              refine rg_sld (pc := 235) C HX g38 dL_law_235 ?_
              refine rg_aload_n (pc := 236) C 0 rfl rfl dL_law_236 ?_
              refine rg_iload_n (pc := 237) C 3 rfl rfl dL_law_237 ?_
              refine rg_iconst (pc := 238) (v := 2) C dL_law_238 (by decide) ?_
              refine rg_iadd (pc := 239) C dL_law_239 ?_
              refine rg_sld (pc := 240) C HX g39 dL_law_240 ?_
              obtain ⟨r43, w44, e45, hf⟩ := ra_bd hf
              refine rg_callVI (pc := 241) (As := [.int (xs (ra_ix (v3 + 1))), .int (xs (ra_ix (v3 + 2)))]) (st := [.int r40]) C (kX6_presses (zl Z) (zG Z) C.hj k _ _ _ _ _ e45) kd_134 (by decide) rfl ysX6_presses rfl wd_796 ⟨Nat.le_of_ble_eq_true rfl, Nat.le_of_ble_eq_true rfl⟩ rfl (Nat.le_of_ble_eq_true rfl) dL_law_241 ?_
              refine rg_icmp_eq (pc := 244) (tgt := 756) C dL_law_244 (by decide) (fun c46 => ?_) (fun c46 => ?_)
              · replace hf := ra_t hf c46
                exact ih1 _ _ _ hf
              · replace hf := ra_f hf c46
                refine rg_iconst (pc := 247) (v := 0) C dL_law_247 (by decide) ?_
                cases hf
            · replace hf := ra_f hf c37
              by_cases c47 : ((xs (ra_ix v3)) &&& 31) = 5
              · replace hf := ra_t hf c47
                refine rg_tableK (pc := 32) (off := 217) (tgt := 249) C 5 c47 dL_law_32 (by decide) (by decide) (by decide) (by decide) ?_
                refine rg_aload_n (pc := 249) C 1 rfl rfl dL_law_249 ?_
                refine rg_aload_n (pc := 250) C 0 rfl rfl dL_law_250 ?_
                refine rg_iload_n (pc := 251) C 3 rfl rfl dL_law_251 ?_
                refine rg_iconst (pc := 252) (v := 1) C dL_law_252 (by decide) ?_
                refine rg_iadd (pc := 253) C dL_law_253 ?_
                obtain ⟨g48, hf⟩ := ra_gd hf
                refine rg_sld (pc := 254) C HX g48 dL_law_254 ?_
                obtain ⟨r49, w50, e51, hf⟩ := ra_bd hf
                refine rg_callVI (pc := 255) (As := [.int (xs (ra_ix (v3 + 1)))]) (st := []) C (kX5_releases (zl Z) (zG Z) C.hj k _ _ _ _ e51) kd_0 (by decide) rfl ysX5_releases rfl wd_433 ⟨Nat.le_of_ble_eq_true rfl, Nat.le_of_ble_eq_true rfl⟩ rfl (Nat.le_of_ble_eq_true rfl) dL_law_255 ?_
                refine rg_aload_n (pc := 258) C 2 rfl rfl dL_law_258 ?_
                refine rg_aload_n (pc := 259) C 0 rfl rfl dL_law_259 ?_
                refine rg_iload_n (pc := 260) C 3 rfl rfl dL_law_260 ?_
                refine rg_iconst (pc := 261) (v := 1) C dL_law_261 (by decide) ?_
                refine rg_iadd (pc := 262) C dL_law_262 ?_
                refine rg_sld (pc := 263) C HX g48 dL_law_263 ?_
                obtain ⟨r52, w53, e54, hf⟩ := ra_bd hf
                refine rg_callVI (pc := 264) (As := [.int (xs (ra_ix (v3 + 1)))]) (st := [.int r49]) C (kX6_releases (zl Z) (zG Z) C.hj k _ _ _ _ e54) kd_134 (by decide) rfl ysX6_releases rfl wd_804 ⟨Nat.le_of_ble_eq_true rfl, Nat.le_of_ble_eq_true rfl⟩ rfl (Nat.le_of_ble_eq_true rfl) dL_law_264 ?_
                refine rg_icmp_eq (pc := 267) (tgt := 756) C dL_law_267 (by decide) (fun c55 => ?_) (fun c55 => ?_)
                · replace hf := ra_t hf c55
                  exact ih1 _ _ _ hf
                · replace hf := ra_f hf c55
                  refine rg_iconst (pc := 270) (v := 0) C dL_law_270 (by decide) ?_
                  cases hf
              · replace hf := ra_f hf c47
                by_cases c56 : ((xs (ra_ix v3)) &&& 31) = 6
                · replace hf := ra_t hf c56
                  refine rg_tableK (pc := 32) (off := 240) (tgt := 272) C 6 c56 dL_law_32 (by decide) (by decide) (by decide) (by decide) ?_
                  refine rg_aload_n (pc := 272) C 1 rfl rfl dL_law_272 ?_
                  refine rg_aload_n (pc := 273) C 0 rfl rfl dL_law_273 ?_
                  refine rg_iload_n (pc := 274) C 3 rfl rfl dL_law_274 ?_
                  refine rg_iconst (pc := 275) (v := 1) C dL_law_275 (by decide) ?_
                  refine rg_iadd (pc := 276) C dL_law_276 ?_
                  obtain ⟨g57, hf⟩ := ra_gd hf
                  refine rg_sld (pc := 277) C HX g57 dL_law_277 ?_
                  refine rg_aload_n (pc := 278) C 0 rfl rfl dL_law_278 ?_
                  refine rg_iload_n (pc := 279) C 3 rfl rfl dL_law_279 ?_
                  refine rg_iconst (pc := 280) (v := 2) C dL_law_280 (by decide) ?_
                  refine rg_iadd (pc := 281) C dL_law_281 ?_
                  obtain ⟨g58, hf⟩ := ra_gd hf
                  refine rg_sld (pc := 282) C HX g58 dL_law_282 ?_
                  obtain ⟨r59, w60, e61, hf⟩ := ra_bd hf
                  refine rg_callVI (pc := 283) (As := [.int (xs (ra_ix (v3 + 1))), .int (xs (ra_ix (v3 + 2)))]) (st := []) C (kX5_controls (zl Z) (zG Z) C.hj k _ _ _ _ _ e61) kd_0 (by decide) rfl ysX5_controls rfl wd_438 ⟨Nat.le_of_ble_eq_true rfl, Nat.le_of_ble_eq_true rfl⟩ rfl (Nat.le_of_ble_eq_true rfl) dL_law_283 ?_
                  refine rg_aload_n (pc := 286) C 2 rfl rfl dL_law_286 ?_
                  refine rg_aload_n (pc := 287) C 0 rfl rfl dL_law_287 ?_
                  refine rg_iload_n (pc := 288) C 3 rfl rfl dL_law_288 ?_
                  refine rg_iconst (pc := 289) (v := 1) C dL_law_289 (by decide) ?_
                  refine rg_iadd (pc := 290) C dL_law_290 ?_
                  refine rg_sld (pc := 291) C HX g57 dL_law_291 ?_
                  refine rg_aload_n (pc := 292) C 0 rfl rfl dL_law_292 ?_
                  refine rg_iload_n (pc := 293) C 3 rfl rfl dL_law_293 ?_
                  refine rg_iconst (pc := 294) (v := 2) C dL_law_294 (by decide) ?_
                  refine rg_iadd (pc := 295) C dL_law_295 ?_
                  refine rg_sld (pc := 296) C HX g58 dL_law_296 ?_
                  obtain ⟨r62, w63, e64, hf⟩ := ra_bd hf
                  refine rg_callVI (pc := 297) (As := [.int (xs (ra_ix (v3 + 1))), .int (xs (ra_ix (v3 + 2)))]) (st := [.int r59]) C (kX6_controls (zl Z) (zG Z) C.hj k _ _ _ _ _ e64) kd_134 (by decide) rfl ysX6_controls rfl wd_808 ⟨Nat.le_of_ble_eq_true rfl, Nat.le_of_ble_eq_true rfl⟩ rfl (Nat.le_of_ble_eq_true rfl) dL_law_297 ?_
                  refine rg_icmp_eq (pc := 300) (tgt := 756) C dL_law_300 (by decide) (fun c65 => ?_) (fun c65 => ?_)
                  · replace hf := ra_t hf c65
                    exact ih1 _ _ _ hf
                  · replace hf := ra_f hf c65
                    refine rg_iconst (pc := 303) (v := 0) C dL_law_303 (by decide) ?_
                    cases hf
                · replace hf := ra_f hf c56
                  by_cases c66 : ((xs (ra_ix v3)) &&& 31) = 7
                  · replace hf := ra_t hf c66
                    refine rg_tableK (pc := 32) (off := 273) (tgt := 305) C 7 c66 dL_law_32 (by decide) (by decide) (by decide) (by decide) ?_
                    refine rg_aload_n (pc := 305) C 1 rfl rfl dL_law_305 ?_
                    refine rg_aload_n (pc := 306) C 0 rfl rfl dL_law_306 ?_
                    refine rg_iload_n (pc := 307) C 3 rfl rfl dL_law_307 ?_
                    refine rg_iconst (pc := 308) (v := 1) C dL_law_308 (by decide) ?_
                    refine rg_iadd (pc := 309) C dL_law_309 ?_
                    obtain ⟨g67, hf⟩ := ra_gd hf
                    refine rg_sld (pc := 310) C HX g67 dL_law_310 ?_
                    obtain ⟨r68, w69, e70, hf⟩ := ra_bd hf
                    refine rg_callVI (pc := 311) (As := [.int (xs (ra_ix (v3 + 1)))]) (st := []) C (kX5_moves (zl Z) (zG Z) C.hj k _ _ _ _ e70) kd_0 (by decide) rfl ysX5_moves rfl wd_446 ⟨Nat.le_of_ble_eq_true rfl, Nat.le_of_ble_eq_true rfl⟩ rfl (Nat.le_of_ble_eq_true rfl) dL_law_311 ?_
                    refine rg_aload_n (pc := 314) C 2 rfl rfl dL_law_314 ?_
                    refine rg_aload_n (pc := 315) C 0 rfl rfl dL_law_315 ?_
                    refine rg_iload_n (pc := 316) C 3 rfl rfl dL_law_316 ?_
                    refine rg_iconst (pc := 317) (v := 1) C dL_law_317 (by decide) ?_
                    refine rg_iadd (pc := 318) C dL_law_318 ?_
                    refine rg_sld (pc := 319) C HX g67 dL_law_319 ?_
                    obtain ⟨r71, w72, e73, hf⟩ := ra_bd hf
                    refine rg_callVI (pc := 320) (As := [.int (xs (ra_ix (v3 + 1)))]) (st := [.int r68]) C (kX6_moves (zl Z) (zG Z) C.hj k _ _ _ _ e73) kd_134 (by decide) rfl ysX6_moves rfl wd_812 ⟨Nat.le_of_ble_eq_true rfl, Nat.le_of_ble_eq_true rfl⟩ rfl (Nat.le_of_ble_eq_true rfl) dL_law_320 ?_
                    refine rg_icmp_eq (pc := 323) (tgt := 756) C dL_law_323 (by decide) (fun c74 => ?_) (fun c74 => ?_)
                    · replace hf := ra_t hf c74
                      exact ih1 _ _ _ hf
                    · replace hf := ra_f hf c74
                      refine rg_iconst (pc := 326) (v := 0) C dL_law_326 (by decide) ?_
                      cases hf
                  · replace hf := ra_f hf c66
                    by_cases c75 : ((xs (ra_ix v3)) &&& 31) = 8
                    · replace hf := ra_t hf c75
                      refine rg_tableK (pc := 32) (off := 296) (tgt := 328) C 8 c75 dL_law_32 (by decide) (by decide) (by decide) (by decide) ?_
                      refine rg_aload_n (pc := 328) C 1 rfl rfl dL_law_328 ?_
                      obtain ⟨r76, w77, e78, hf⟩ := ra_bd hf
                      refine rg_callVI (pc := 329) (As := []) (st := []) C (kX5_undo (zl Z) (zG Z) C.hj k _ _ _ e78) kd_0 (by decide) rfl ysX5_undo rfl wd_450 ⟨Nat.le_of_ble_eq_true rfl, Nat.le_of_ble_eq_true rfl⟩ rfl (Nat.le_of_ble_eq_true rfl) dL_law_329 ?_
                      refine rg_aload_n (pc := 332) C 2 rfl rfl dL_law_332 ?_
                      obtain ⟨r79, w80, e81, hf⟩ := ra_bd hf
                      refine rg_callVI (pc := 333) (As := []) (st := [.int r76]) C (kX6_undo (zl Z) (zG Z) C.hj k _ _ _ e81) kd_134 (by decide) rfl ysX6_undo rfl wd_816 ⟨Nat.le_of_ble_eq_true rfl, Nat.le_of_ble_eq_true rfl⟩ rfl (Nat.le_of_ble_eq_true rfl) dL_law_333 ?_
                      refine rg_icmp_eq (pc := 336) (tgt := 756) C dL_law_336 (by decide) (fun c82 => ?_) (fun c82 => ?_)
                      · replace hf := ra_t hf c82
                        exact ih1 _ _ _ hf
                      · replace hf := ra_f hf c82
                        refine rg_iconst (pc := 339) (v := 0) C dL_law_339 (by decide) ?_
                        cases hf
                    · replace hf := ra_f hf c75
                      by_cases c83 : ((xs (ra_ix v3)) &&& 31) = 9
                      · replace hf := ra_t hf c83
                        refine rg_tableK (pc := 32) (off := 309) (tgt := 341) C 9 c83 dL_law_32 (by decide) (by decide) (by decide) (by decide) ?_
                        refine rg_aload_n (pc := 341) C 1 rfl rfl dL_law_341 ?_
                        refine rg_aload_n (pc := 342) C 0 rfl rfl dL_law_342 ?_
                        refine rg_iload_n (pc := 343) C 3 rfl rfl dL_law_343 ?_
                        refine rg_iconst (pc := 344) (v := 1) C dL_law_344 (by decide) ?_
                        refine rg_iadd (pc := 345) C dL_law_345 ?_
                        obtain ⟨g84, hf⟩ := ra_gd hf
                        refine rg_sld (pc := 346) C HX g84 dL_law_346 ?_
                        refine rg_aload_n (pc := 347) C 0 rfl rfl dL_law_347 ?_
                        refine rg_iload_n (pc := 348) C 3 rfl rfl dL_law_348 ?_
                        refine rg_iconst (pc := 349) (v := 2) C dL_law_349 (by decide) ?_
                        refine rg_iadd (pc := 350) C dL_law_350 ?_
                        obtain ⟨g85, hf⟩ := ra_gd hf
                        refine rg_sld (pc := 351) C HX g85 dL_law_351 ?_
                        obtain ⟨r86, w87, e88, hf⟩ := ra_bd hf
                        refine rg_callVI (pc := 352) (As := [.int (xs (ra_ix (v3 + 1))), .int (xs (ra_ix (v3 + 2)))]) (st := []) C (kX5_radio (zl Z) (zG Z) C.hj k _ _ _ _ _ e88) kd_0 (by decide) rfl ysX5_radio rfl wd_458 ⟨Nat.le_of_ble_eq_true rfl, Nat.le_of_ble_eq_true rfl⟩ rfl (Nat.le_of_ble_eq_true rfl) dL_law_352 ?_
                        refine rg_aload_n (pc := 355) C 2 rfl rfl dL_law_355 ?_
                        refine rg_aload_n (pc := 356) C 0 rfl rfl dL_law_356 ?_
                        refine rg_iload_n (pc := 357) C 3 rfl rfl dL_law_357 ?_
                        refine rg_iconst (pc := 358) (v := 1) C dL_law_358 (by decide) ?_
                        refine rg_iadd (pc := 359) C dL_law_359 ?_
                        refine rg_sld (pc := 360) C HX g84 dL_law_360 ?_
                        refine rg_aload_n (pc := 361) C 0 rfl rfl dL_law_361 ?_
                        refine rg_iload_n (pc := 362) C 3 rfl rfl dL_law_362 ?_
                        refine rg_iconst (pc := 363) (v := 2) C dL_law_363 (by decide) ?_
                        refine rg_iadd (pc := 364) C dL_law_364 ?_
                        refine rg_sld (pc := 365) C HX g85 dL_law_365 ?_
                        obtain ⟨r89, w90, e91, hf⟩ := ra_bd hf
                        refine rg_callVI (pc := 366) (As := [.int (xs (ra_ix (v3 + 1))), .int (xs (ra_ix (v3 + 2)))]) (st := [.int r86]) C (kX6_radio (zl Z) (zG Z) C.hj k _ _ _ _ _ e91) kd_134 (by decide) rfl ysX6_radio rfl wd_820 ⟨Nat.le_of_ble_eq_true rfl, Nat.le_of_ble_eq_true rfl⟩ rfl (Nat.le_of_ble_eq_true rfl) dL_law_366 ?_
                        refine rg_icmp_eq (pc := 369) (tgt := 756) C dL_law_369 (by decide) (fun c92 => ?_) (fun c92 => ?_)
                        · replace hf := ra_t hf c92
                          exact ih1 _ _ _ hf
                        · replace hf := ra_f hf c92
                          refine rg_iconst (pc := 372) (v := 0) C dL_law_372 (by decide) ?_
                          cases hf
                      · replace hf := ra_f hf c83
                        by_cases c93 : ((xs (ra_ix v3)) &&& 31) = 10
                        · replace hf := ra_t hf c93
                          refine rg_tableK (pc := 32) (off := 342) (tgt := 374) C 10 c93 dL_law_32 (by decide) (by decide) (by decide) (by decide) ?_
                          refine rg_aload_n (pc := 374) C 1 rfl rfl dL_law_374 ?_
                          refine rg_aload_n (pc := 375) C 0 rfl rfl dL_law_375 ?_
                          refine rg_iload_n (pc := 376) C 3 rfl rfl dL_law_376 ?_
                          refine rg_iconst (pc := 377) (v := 1) C dL_law_377 (by decide) ?_
                          refine rg_iadd (pc := 378) C dL_law_378 ?_
                          obtain ⟨g94, hf⟩ := ra_gd hf
                          refine rg_sld (pc := 379) C HX g94 dL_law_379 ?_
                          refine rg_aload_n (pc := 380) C 0 rfl rfl dL_law_380 ?_
                          refine rg_iload_n (pc := 381) C 3 rfl rfl dL_law_381 ?_
                          refine rg_iconst (pc := 382) (v := 2) C dL_law_382 (by decide) ?_
                          refine rg_iadd (pc := 383) C dL_law_383 ?_
                          obtain ⟨g95, hf⟩ := ra_gd hf
                          refine rg_sld (pc := 384) C HX g95 dL_law_384 ?_
                          obtain ⟨r96, w97, e98, hf⟩ := ra_bd hf
                          refine rg_callVI (pc := 385) (As := [.int (xs (ra_ix (v3 + 1))), .int (xs (ra_ix (v3 + 2)))]) (st := []) C (kX5_site (zl Z) (zG Z) C.hj k _ _ _ _ _ e98) kd_0 (by decide) rfl ysX5_site rfl wd_462 ⟨Nat.le_of_ble_eq_true rfl, Nat.le_of_ble_eq_true rfl⟩ rfl (Nat.le_of_ble_eq_true rfl) dL_law_385 ?_
                          refine rg_aload_n (pc := 388) C 2 rfl rfl dL_law_388 ?_
                          refine rg_aload_n (pc := 389) C 0 rfl rfl dL_law_389 ?_
                          refine rg_iload_n (pc := 390) C 3 rfl rfl dL_law_390 ?_
                          refine rg_iconst (pc := 391) (v := 1) C dL_law_391 (by decide) ?_
                          refine rg_iadd (pc := 392) C dL_law_392 ?_
                          refine rg_sld (pc := 393) C HX g94 dL_law_393 ?_
                          refine rg_aload_n (pc := 394) C 0 rfl rfl dL_law_394 ?_
                          refine rg_iload_n (pc := 395) C 3 rfl rfl dL_law_395 ?_
                          refine rg_iconst (pc := 396) (v := 2) C dL_law_396 (by decide) ?_
                          refine rg_iadd (pc := 397) C dL_law_397 ?_
                          refine rg_sld (pc := 398) C HX g95 dL_law_398 ?_
                          obtain ⟨r99, w100, e101, hf⟩ := ra_bd hf
                          refine rg_callVI (pc := 399) (As := [.int (xs (ra_ix (v3 + 1))), .int (xs (ra_ix (v3 + 2)))]) (st := [.int r96]) C (kX6_site (zl Z) (zG Z) C.hj k _ _ _ _ _ e101) kd_134 (by decide) rfl ysX6_site rfl wd_824 ⟨Nat.le_of_ble_eq_true rfl, Nat.le_of_ble_eq_true rfl⟩ rfl (Nat.le_of_ble_eq_true rfl) dL_law_399 ?_
                          refine rg_icmp_eq (pc := 402) (tgt := 756) C dL_law_402 (by decide) (fun c102 => ?_) (fun c102 => ?_)
                          · replace hf := ra_t hf c102
                            exact ih1 _ _ _ hf
                          · replace hf := ra_f hf c102
                            refine rg_iconst (pc := 405) (v := 0) C dL_law_405 (by decide) ?_
                            cases hf
                        · replace hf := ra_f hf c93
                          by_cases c103 : ((xs (ra_ix v3)) &&& 31) = 11
                          · replace hf := ra_t hf c103
                            refine rg_tableK (pc := 32) (off := 375) (tgt := 407) C 11 c103 dL_law_32 (by decide) (by decide) (by decide) (by decide) ?_
                            refine rg_aload_n (pc := 407) C 1 rfl rfl dL_law_407 ?_
                            refine rg_aload_n (pc := 408) C 0 rfl rfl dL_law_408 ?_
                            refine rg_iload_n (pc := 409) C 3 rfl rfl dL_law_409 ?_
                            refine rg_iconst (pc := 410) (v := 1) C dL_law_410 (by decide) ?_
                            refine rg_iadd (pc := 411) C dL_law_411 ?_
                            obtain ⟨g104, hf⟩ := ra_gd hf
                            refine rg_sld (pc := 412) C HX g104 dL_law_412 ?_
                            obtain ⟨r105, w106, e107, hf⟩ := ra_bd hf
                            refine rg_callVI (pc := 413) (As := [.int (xs (ra_ix (v3 + 1)))]) (st := []) C (kX5_talker (zl Z) (zG Z) C.hj k _ _ _ _ e107) kd_0 (by decide) rfl ysX5_talker rfl wd_470 ⟨Nat.le_of_ble_eq_true rfl, Nat.le_of_ble_eq_true rfl⟩ rfl (Nat.le_of_ble_eq_true rfl) dL_law_413 ?_
                            refine rg_aload_n (pc := 416) C 2 rfl rfl dL_law_416 ?_
                            refine rg_aload_n (pc := 417) C 0 rfl rfl dL_law_417 ?_
                            refine rg_iload_n (pc := 418) C 3 rfl rfl dL_law_418 ?_
                            refine rg_iconst (pc := 419) (v := 1) C dL_law_419 (by decide) ?_
                            refine rg_iadd (pc := 420) C dL_law_420 ?_
                            refine rg_sld (pc := 421) C HX g104 dL_law_421 ?_
                            obtain ⟨r108, w109, e110, hf⟩ := ra_bd hf
                            refine rg_callVI (pc := 422) (As := [.int (xs (ra_ix (v3 + 1)))]) (st := [.int r105]) C (kX6_talker (zl Z) (zG Z) C.hj k _ _ _ _ e110) kd_134 (by decide) rfl ysX6_talker rfl wd_828 ⟨Nat.le_of_ble_eq_true rfl, Nat.le_of_ble_eq_true rfl⟩ rfl (Nat.le_of_ble_eq_true rfl) dL_law_422 ?_
                            refine rg_icmp_eq (pc := 425) (tgt := 756) C dL_law_425 (by decide) (fun c111 => ?_) (fun c111 => ?_)
                            · replace hf := ra_t hf c111
                              exact ih1 _ _ _ hf
                            · replace hf := ra_f hf c111
                              refine rg_iconst (pc := 428) (v := 0) C dL_law_428 (by decide) ?_
                              cases hf
                          · replace hf := ra_f hf c103
                            by_cases c112 : ((xs (ra_ix v3)) &&& 31) = 12
                            · replace hf := ra_t hf c112
                              refine rg_tableK (pc := 32) (off := 398) (tgt := 430) C 12 c112 dL_law_32 (by decide) (by decide) (by decide) (by decide) ?_
                              refine rg_aload_n (pc := 430) C 1 rfl rfl dL_law_430 ?_
                              refine rg_aload_n (pc := 431) C 0 rfl rfl dL_law_431 ?_
                              refine rg_iload_n (pc := 432) C 3 rfl rfl dL_law_432 ?_
                              refine rg_iconst (pc := 433) (v := 1) C dL_law_433 (by decide) ?_
                              refine rg_iadd (pc := 434) C dL_law_434 ?_
                              obtain ⟨g113, hf⟩ := ra_gd hf
                              refine rg_sld (pc := 435) C HX g113 dL_law_435 ?_
                              obtain ⟨r114, w115, e116, hf⟩ := ra_bd hf
                              refine rg_callVI (pc := 436) (As := [.int (xs (ra_ix (v3 + 1)))]) (st := []) C (kX5_queue (zl Z) (zG Z) C.hj k _ _ _ _ e116) kd_0 (by decide) rfl ysX5_queue rfl wd_475 ⟨Nat.le_of_ble_eq_true rfl, Nat.le_of_ble_eq_true rfl⟩ rfl (Nat.le_of_ble_eq_true rfl) dL_law_436 ?_
                              refine rg_aload_n (pc := 439) C 2 rfl rfl dL_law_439 ?_
                              refine rg_aload_n (pc := 440) C 0 rfl rfl dL_law_440 ?_
                              refine rg_iload_n (pc := 441) C 3 rfl rfl dL_law_441 ?_
                              refine rg_iconst (pc := 442) (v := 1) C dL_law_442 (by decide) ?_
                              refine rg_iadd (pc := 443) C dL_law_443 ?_
                              refine rg_sld (pc := 444) C HX g113 dL_law_444 ?_
                              obtain ⟨r117, w118, e119, hf⟩ := ra_bd hf
                              refine rg_callVI (pc := 445) (As := [.int (xs (ra_ix (v3 + 1)))]) (st := [.int r114]) C (kX6_queue (zl Z) (zG Z) C.hj k _ _ _ _ e119) kd_134 (by decide) rfl ysX6_queue rfl wd_832 ⟨Nat.le_of_ble_eq_true rfl, Nat.le_of_ble_eq_true rfl⟩ rfl (Nat.le_of_ble_eq_true rfl) dL_law_445 ?_
                              refine rg_icmp_eq (pc := 448) (tgt := 756) C dL_law_448 (by decide) (fun c120 => ?_) (fun c120 => ?_)
                              · replace hf := ra_t hf c120
                                exact ih1 _ _ _ hf
                              · replace hf := ra_f hf c120
                                refine rg_iconst (pc := 451) (v := 0) C dL_law_451 (by decide) ?_
                                cases hf
                            · replace hf := ra_f hf c112
                              by_cases c121 : ((xs (ra_ix v3)) &&& 31) = 13
                              · replace hf := ra_t hf c121
                                refine rg_tableK (pc := 32) (off := 421) (tgt := 453) C 13 c121 dL_law_32 (by decide) (by decide) (by decide) (by decide) ?_
                                refine rg_aload_n (pc := 453) C 1 rfl rfl dL_law_453 ?_
                                refine rg_aload_n (pc := 454) C 0 rfl rfl dL_law_454 ?_
                                refine rg_iload_n (pc := 455) C 3 rfl rfl dL_law_455 ?_
                                refine rg_iconst (pc := 456) (v := 1) C dL_law_456 (by decide) ?_
                                refine rg_iadd (pc := 457) C dL_law_457 ?_
                                obtain ⟨g122, hf⟩ := ra_gd hf
                                refine rg_sld (pc := 458) C HX g122 dL_law_458 ?_
                                obtain ⟨r123, w124, e125, hf⟩ := ra_bd hf
                                refine rg_callVI (pc := 459) (As := [.int (xs (ra_ix (v3 + 1)))]) (st := []) C (kX5_soon (zl Z) (zG Z) C.hj k _ _ _ _ e125) kd_0 (by decide) rfl ysX5_soon rfl wd_480 ⟨Nat.le_of_ble_eq_true rfl, Nat.le_of_ble_eq_true rfl⟩ rfl (Nat.le_of_ble_eq_true rfl) dL_law_459 ?_
                                refine rg_aload_n (pc := 462) C 2 rfl rfl dL_law_462 ?_
                                refine rg_aload_n (pc := 463) C 0 rfl rfl dL_law_463 ?_
                                refine rg_iload_n (pc := 464) C 3 rfl rfl dL_law_464 ?_
                                refine rg_iconst (pc := 465) (v := 1) C dL_law_465 (by decide) ?_
                                refine rg_iadd (pc := 466) C dL_law_466 ?_
                                refine rg_sld (pc := 467) C HX g122 dL_law_467 ?_
                                obtain ⟨r126, w127, e128, hf⟩ := ra_bd hf
                                refine rg_callVI (pc := 468) (As := [.int (xs (ra_ix (v3 + 1)))]) (st := [.int r123]) C (kX6_soon (zl Z) (zG Z) C.hj k _ _ _ _ e128) kd_134 (by decide) rfl ysX6_soon rfl wd_836 ⟨Nat.le_of_ble_eq_true rfl, Nat.le_of_ble_eq_true rfl⟩ rfl (Nat.le_of_ble_eq_true rfl) dL_law_468 ?_
                                refine rg_icmp_eq (pc := 471) (tgt := 756) C dL_law_471 (by decide) (fun c129 => ?_) (fun c129 => ?_)
                                · replace hf := ra_t hf c129
                                  exact ih1 _ _ _ hf
                                · replace hf := ra_f hf c129
                                  refine rg_iconst (pc := 474) (v := 0) C dL_law_474 (by decide) ?_
                                  cases hf
                              · replace hf := ra_f hf c121
                                by_cases c130 : ((xs (ra_ix v3)) &&& 31) = 14
                                · replace hf := ra_t hf c130
                                  refine rg_tableK (pc := 32) (off := 444) (tgt := 476) C 14 c130 dL_law_32 (by decide) (by decide) (by decide) (by decide) ?_
                                  refine rg_aload_n (pc := 476) C 1 rfl rfl dL_law_476 ?_
                                  refine rg_aload_n (pc := 477) C 0 rfl rfl dL_law_477 ?_
                                  refine rg_iload_n (pc := 478) C 3 rfl rfl dL_law_478 ?_
                                  refine rg_iconst (pc := 479) (v := 1) C dL_law_479 (by decide) ?_
                                  refine rg_iadd (pc := 480) C dL_law_480 ?_
                                  obtain ⟨g131, hf⟩ := ra_gd hf
                                  refine rg_sld (pc := 481) C HX g131 dL_law_481 ?_
                                  refine rg_aload_n (pc := 482) C 0 rfl rfl dL_law_482 ?_
                                  refine rg_iload_n (pc := 483) C 3 rfl rfl dL_law_483 ?_
                                  refine rg_iconst (pc := 484) (v := 2) C dL_law_484 (by decide) ?_
                                  refine rg_iadd (pc := 485) C dL_law_485 ?_
                                  obtain ⟨g132, hf⟩ := ra_gd hf
                                  refine rg_sld (pc := 486) C HX g132 dL_law_486 ?_
                                  obtain ⟨r133, w134, e135, hf⟩ := ra_bd hf
                                  refine rg_callVI (pc := 487) (As := [.int (xs (ra_ix (v3 + 1))), .int (xs (ra_ix (v3 + 2)))]) (st := []) C (kX5_within (zl Z) (zG Z) C.hj k _ _ _ _ _ e135) kd_0 (by decide) rfl ysX5_within rfl wd_485 ⟨Nat.le_of_ble_eq_true rfl, Nat.le_of_ble_eq_true rfl⟩ rfl (Nat.le_of_ble_eq_true rfl) dL_law_487 ?_
                                  refine rg_aload_n (pc := 490) C 2 rfl rfl dL_law_490 ?_
                                  refine rg_aload_n (pc := 491) C 0 rfl rfl dL_law_491 ?_
                                  refine rg_iload_n (pc := 492) C 3 rfl rfl dL_law_492 ?_
                                  refine rg_iconst (pc := 493) (v := 1) C dL_law_493 (by decide) ?_
                                  refine rg_iadd (pc := 494) C dL_law_494 ?_
                                  refine rg_sld (pc := 495) C HX g131 dL_law_495 ?_
                                  refine rg_aload_n (pc := 496) C 0 rfl rfl dL_law_496 ?_
                                  refine rg_iload_n (pc := 497) C 3 rfl rfl dL_law_497 ?_
                                  refine rg_iconst (pc := 498) (v := 2) C dL_law_498 (by decide) ?_
                                  refine rg_iadd (pc := 499) C dL_law_499 ?_
                                  refine rg_sld (pc := 500) C HX g132 dL_law_500 ?_
                                  obtain ⟨r136, w137, e138, hf⟩ := ra_bd hf
                                  refine rg_callVI (pc := 501) (As := [.int (xs (ra_ix (v3 + 1))), .int (xs (ra_ix (v3 + 2)))]) (st := [.int r133]) C (kX6_within (zl Z) (zG Z) C.hj k _ _ _ _ _ e138) kd_134 (by decide) rfl ysX6_within rfl wd_840 ⟨Nat.le_of_ble_eq_true rfl, Nat.le_of_ble_eq_true rfl⟩ rfl (Nat.le_of_ble_eq_true rfl) dL_law_501 ?_
                                  refine rg_icmp_eq (pc := 504) (tgt := 756) C dL_law_504 (by decide) (fun c139 => ?_) (fun c139 => ?_)
                                  · replace hf := ra_t hf c139
                                    exact ih1 _ _ _ hf
                                  · replace hf := ra_f hf c139
                                    refine rg_iconst (pc := 507) (v := 0) C dL_law_507 (by decide) ?_
                                    cases hf
                                · replace hf := ra_f hf c130
                                  by_cases c140 : ((xs (ra_ix v3)) &&& 31) = 15
                                  · replace hf := ra_t hf c140
                                    refine rg_tableK (pc := 32) (off := 477) (tgt := 509) C 15 c140 dL_law_32 (by decide) (by decide) (by decide) (by decide) ?_
                                    refine rg_aload_n (pc := 509) C 1 rfl rfl dL_law_509 ?_
                                    refine rg_aload_n (pc := 510) C 0 rfl rfl dL_law_510 ?_
                                    refine rg_iload_n (pc := 511) C 3 rfl rfl dL_law_511 ?_
                                    refine rg_iconst (pc := 512) (v := 1) C dL_law_512 (by decide) ?_
                                    refine rg_iadd (pc := 513) C dL_law_513 ?_
                                    obtain ⟨g141, hf⟩ := ra_gd hf
                                    refine rg_sld (pc := 514) C HX g141 dL_law_514 ?_
                                    refine rg_aload_n (pc := 515) C 0 rfl rfl dL_law_515 ?_
                                    refine rg_iload_n (pc := 516) C 3 rfl rfl dL_law_516 ?_
                                    refine rg_iconst (pc := 517) (v := 2) C dL_law_517 (by decide) ?_
                                    refine rg_iadd (pc := 518) C dL_law_518 ?_
                                    obtain ⟨g142, hf⟩ := ra_gd hf
                                    refine rg_sld (pc := 519) C HX g142 dL_law_519 ?_
                                    obtain ⟨r143, w144, e145, hf⟩ := ra_bd hf
                                    refine rg_callVI (pc := 520) (As := [.int (xs (ra_ix (v3 + 1))), .int (xs (ra_ix (v3 + 2)))]) (st := []) C (kX5_wave (zl Z) (zG Z) C.hj k _ _ _ _ _ e145) kd_0 (by decide) rfl ysX5_wave rfl wd_490 ⟨Nat.le_of_ble_eq_true rfl, Nat.le_of_ble_eq_true rfl⟩ rfl (Nat.le_of_ble_eq_true rfl) dL_law_520 ?_
                                    refine rg_aload_n (pc := 523) C 2 rfl rfl dL_law_523 ?_
                                    refine rg_aload_n (pc := 524) C 0 rfl rfl dL_law_524 ?_
                                    refine rg_iload_n (pc := 525) C 3 rfl rfl dL_law_525 ?_
                                    refine rg_iconst (pc := 526) (v := 1) C dL_law_526 (by decide) ?_
                                    refine rg_iadd (pc := 527) C dL_law_527 ?_
                                    refine rg_sld (pc := 528) C HX g141 dL_law_528 ?_
                                    refine rg_aload_n (pc := 529) C 0 rfl rfl dL_law_529 ?_
                                    refine rg_iload_n (pc := 530) C 3 rfl rfl dL_law_530 ?_
                                    refine rg_iconst (pc := 531) (v := 2) C dL_law_531 (by decide) ?_
                                    refine rg_iadd (pc := 532) C dL_law_532 ?_
                                    refine rg_sld (pc := 533) C HX g142 dL_law_533 ?_
                                    obtain ⟨r146, w147, e148, hf⟩ := ra_bd hf
                                    refine rg_callVI (pc := 534) (As := [.int (xs (ra_ix (v3 + 1))), .int (xs (ra_ix (v3 + 2)))]) (st := [.int r143]) C (kX6_wave (zl Z) (zG Z) C.hj k _ _ _ _ _ e148) kd_134 (by decide) rfl ysX6_wave rfl wd_844 ⟨Nat.le_of_ble_eq_true rfl, Nat.le_of_ble_eq_true rfl⟩ rfl (Nat.le_of_ble_eq_true rfl) dL_law_534 ?_
                                    refine rg_icmp_eq (pc := 537) (tgt := 756) C dL_law_537 (by decide) (fun c149 => ?_) (fun c149 => ?_)
                                    · replace hf := ra_t hf c149
                                      exact ih1 _ _ _ hf
                                    · replace hf := ra_f hf c149
                                      refine rg_iconst (pc := 540) (v := 0) C dL_law_540 (by decide) ?_
                                      cases hf
                                  · replace hf := ra_f hf c140
                                    by_cases c150 : ((xs (ra_ix v3)) &&& 31) = 16
                                    · replace hf := ra_t hf c150
                                      refine rg_tableK (pc := 32) (off := 510) (tgt := 542) C 16 c150 dL_law_32 (by decide) (by decide) (by decide) (by decide) ?_
                                      refine rg_aload_n (pc := 542) C 1 rfl rfl dL_law_542 ?_
                                      refine rg_aload_n (pc := 543) C 0 rfl rfl dL_law_543 ?_
                                      refine rg_iload_n (pc := 544) C 3 rfl rfl dL_law_544 ?_
                                      refine rg_iconst (pc := 545) (v := 1) C dL_law_545 (by decide) ?_
                                      refine rg_iadd (pc := 546) C dL_law_546 ?_
                                      obtain ⟨g151, hf⟩ := ra_gd hf
                                      refine rg_sld (pc := 547) C HX g151 dL_law_547 ?_
                                      refine rg_aload_n (pc := 548) C 0 rfl rfl dL_law_548 ?_
                                      refine rg_iload_n (pc := 549) C 3 rfl rfl dL_law_549 ?_
                                      refine rg_iconst (pc := 550) (v := 2) C dL_law_550 (by decide) ?_
                                      refine rg_iadd (pc := 551) C dL_law_551 ?_
                                      obtain ⟨g152, hf⟩ := ra_gd hf
                                      refine rg_sld (pc := 552) C HX g152 dL_law_552 ?_
                                      refine rg_aload_n (pc := 553) C 0 rfl rfl dL_law_553 ?_
                                      refine rg_iload_n (pc := 554) C 3 rfl rfl dL_law_554 ?_
                                      refine rg_iconst (pc := 555) (v := 3) C dL_law_555 (by decide) ?_
                                      refine rg_iadd (pc := 556) C dL_law_556 ?_
                                      obtain ⟨g153, hf⟩ := ra_gd hf
                                      refine rg_sld (pc := 557) C HX g153 dL_law_557 ?_
                                      refine rg_aload_n (pc := 558) C 0 rfl rfl dL_law_558 ?_
                                      refine rg_iload_n (pc := 559) C 3 rfl rfl dL_law_559 ?_
                                      refine rg_iconst (pc := 560) (v := 4) C dL_law_560 (by decide) ?_
                                      refine rg_iadd (pc := 561) C dL_law_561 ?_
                                      obtain ⟨g154, hf⟩ := ra_gd hf
                                      refine rg_sld (pc := 562) C HX g154 dL_law_562 ?_
                                      obtain ⟨r155, w156, e157, hf⟩ := ra_bd hf
                                      refine rg_callVI (pc := 563) (As := [.int (xs (ra_ix (v3 + 1))), .int (xs (ra_ix (v3 + 2))), .int (xs (ra_ix (v3 + 3))), .int (xs (ra_ix (v3 + 4)))]) (st := []) C (kX5_odds (zl Z) (zG Z) C.hj k _ _ _ _ _ _ _ e157) kd_0 (by decide) rfl ysX5_odds rfl wd_511 ⟨Nat.le_of_ble_eq_true rfl, Nat.le_of_ble_eq_true rfl⟩ rfl (Nat.le_of_ble_eq_true rfl) dL_law_563 ?_
                                      refine rg_aload_n (pc := 566) C 2 rfl rfl dL_law_566 ?_
                                      refine rg_aload_n (pc := 567) C 0 rfl rfl dL_law_567 ?_
                                      refine rg_iload_n (pc := 568) C 3 rfl rfl dL_law_568 ?_
                                      refine rg_iconst (pc := 569) (v := 1) C dL_law_569 (by decide) ?_
                                      refine rg_iadd (pc := 570) C dL_law_570 ?_
                                      refine rg_sld (pc := 571) C HX g151 dL_law_571 ?_
                                      refine rg_aload_n (pc := 572) C 0 rfl rfl dL_law_572 ?_
                                      refine rg_iload_n (pc := 573) C 3 rfl rfl dL_law_573 ?_
                                      refine rg_iconst (pc := 574) (v := 2) C dL_law_574 (by decide) ?_
                                      refine rg_iadd (pc := 575) C dL_law_575 ?_
                                      refine rg_sld (pc := 576) C HX g152 dL_law_576 ?_
                                      refine rg_aload_n (pc := 577) C 0 rfl rfl dL_law_577 ?_
                                      refine rg_iload_n (pc := 578) C 3 rfl rfl dL_law_578 ?_
                                      refine rg_iconst (pc := 579) (v := 3) C dL_law_579 (by decide) ?_
                                      refine rg_iadd (pc := 580) C dL_law_580 ?_
                                      refine rg_sld (pc := 581) C HX g153 dL_law_581 ?_
                                      refine rg_aload_n (pc := 582) C 0 rfl rfl dL_law_582 ?_
                                      refine rg_iload_n (pc := 583) C 3 rfl rfl dL_law_583 ?_
                                      refine rg_iconst (pc := 584) (v := 4) C dL_law_584 (by decide) ?_
                                      refine rg_iadd (pc := 585) C dL_law_585 ?_
                                      refine rg_sld (pc := 586) C HX g154 dL_law_586 ?_
                                      obtain ⟨r158, w159, e160, hf⟩ := ra_bd hf
                                      refine rg_callVI (pc := 587) (As := [.int (xs (ra_ix (v3 + 1))), .int (xs (ra_ix (v3 + 2))), .int (xs (ra_ix (v3 + 3))), .int (xs (ra_ix (v3 + 4)))]) (st := [.int r155]) C (kX6_odds (zl Z) (zG Z) C.hj k _ _ _ _ _ _ _ e160) kd_134 (by decide) rfl ysX6_odds rfl wd_860 ⟨Nat.le_of_ble_eq_true rfl, Nat.le_of_ble_eq_true rfl⟩ rfl (Nat.le_of_ble_eq_true rfl) dL_law_587 ?_
                                      refine rg_icmp_eq (pc := 590) (tgt := 756) C dL_law_590 (by decide) (fun c161 => ?_) (fun c161 => ?_)
                                      · replace hf := ra_t hf c161
                                        exact ih1 _ _ _ hf
                                      · replace hf := ra_f hf c161
                                        refine rg_iconst (pc := 593) (v := 0) C dL_law_593 (by decide) ?_
                                        cases hf
                                    · replace hf := ra_f hf c150
                                      by_cases c162 : ((xs (ra_ix v3)) &&& 31) = 17
                                      · replace hf := ra_t hf c162
                                        refine rg_tableK (pc := 32) (off := 563) (tgt := 595) C 17 c162 dL_law_32 (by decide) (by decide) (by decide) (by decide) ?_
                                        refine rg_aload_n (pc := 595) C 1 rfl rfl dL_law_595 ?_
                                        refine rg_aload_n (pc := 596) C 0 rfl rfl dL_law_596 ?_
                                        refine rg_iload_n (pc := 597) C 3 rfl rfl dL_law_597 ?_
                                        refine rg_iconst (pc := 598) (v := 1) C dL_law_598 (by decide) ?_
                                        refine rg_iadd (pc := 599) C dL_law_599 ?_
                                        obtain ⟨g163, hf⟩ := ra_gd hf
                                        refine rg_sld (pc := 600) C HX g163 dL_law_600 ?_
                                        refine rg_aload_n (pc := 601) C 0 rfl rfl dL_law_601 ?_
                                        refine rg_iload_n (pc := 602) C 3 rfl rfl dL_law_602 ?_
                                        refine rg_iconst (pc := 603) (v := 2) C dL_law_603 (by decide) ?_
                                        refine rg_iadd (pc := 604) C dL_law_604 ?_
                                        obtain ⟨g164, hf⟩ := ra_gd hf
                                        refine rg_sld (pc := 605) C HX g164 dL_law_605 ?_
                                        obtain ⟨r165, w166, e167, hf⟩ := ra_bd hf
                                        refine rg_callVI (pc := 606) (As := [.int (xs (ra_ix (v3 + 1))), .int (xs (ra_ix (v3 + 2)))]) (st := []) C (kX5_sees (zl Z) (zG Z) C.hj k _ _ _ _ _ e167) kd_0 (by decide) rfl ysX5_sees rfl wd_535 ⟨Nat.le_of_ble_eq_true rfl, Nat.le_of_ble_eq_true rfl⟩ rfl (Nat.le_of_ble_eq_true rfl) dL_law_606 ?_
                                        refine rg_aload_n (pc := 609) C 2 rfl rfl dL_law_609 ?_
                                        refine rg_aload_n (pc := 610) C 0 rfl rfl dL_law_610 ?_
                                        refine rg_iload_n (pc := 611) C 3 rfl rfl dL_law_611 ?_
                                        refine rg_iconst (pc := 612) (v := 1) C dL_law_612 (by decide) ?_
                                        refine rg_iadd (pc := 613) C dL_law_613 ?_
                                        refine rg_sld (pc := 614) C HX g163 dL_law_614 ?_
                                        refine rg_aload_n (pc := 615) C 0 rfl rfl dL_law_615 ?_
                                        refine rg_iload_n (pc := 616) C 3 rfl rfl dL_law_616 ?_
                                        refine rg_iconst (pc := 617) (v := 2) C dL_law_617 (by decide) ?_
                                        refine rg_iadd (pc := 618) C dL_law_618 ?_
                                        refine rg_sld (pc := 619) C HX g164 dL_law_619 ?_
                                        obtain ⟨r168, w169, e170, hf⟩ := ra_bd hf
                                        refine rg_callVI (pc := 620) (As := [.int (xs (ra_ix (v3 + 1))), .int (xs (ra_ix (v3 + 2)))]) (st := [.int r165]) C (kX6_sees (zl Z) (zG Z) C.hj k _ _ _ _ _ e170) kd_134 (by decide) rfl ysX6_sees rfl wd_867 ⟨Nat.le_of_ble_eq_true rfl, Nat.le_of_ble_eq_true rfl⟩ rfl (Nat.le_of_ble_eq_true rfl) dL_law_620 ?_
                                        refine rg_icmp_eq (pc := 623) (tgt := 756) C dL_law_623 (by decide) (fun c171 => ?_) (fun c171 => ?_)
                                        · replace hf := ra_t hf c171
                                          exact ih1 _ _ _ hf
                                        · replace hf := ra_f hf c171
                                          refine rg_iconst (pc := 626) (v := 0) C dL_law_626 (by decide) ?_
                                          cases hf
                                      · replace hf := ra_f hf c162
                                        by_cases c172 : ((xs (ra_ix v3)) &&& 31) = 18
                                        · replace hf := ra_t hf c172
                                          refine rg_tableK (pc := 32) (off := 596) (tgt := 628) C 18 c172 dL_law_32 (by decide) (by decide) (by decide) (by decide) ?_
                                          refine rg_aload_n (pc := 628) C 1 rfl rfl dL_law_628 ?_
                                          obtain ⟨r173, w174, e175, hf⟩ := ra_bd hf
                                          refine rg_callVI (pc := 629) (As := []) (st := []) C (kX5_forget (zl Z) (zG Z) C.hj k _ _ _ e175) kd_0 (by decide) rfl ysX5_forget rfl wd_539 ⟨Nat.le_of_ble_eq_true rfl, Nat.le_of_ble_eq_true rfl⟩ rfl (Nat.le_of_ble_eq_true rfl) dL_law_629 ?_
                                          refine rg_aload_n (pc := 632) C 2 rfl rfl dL_law_632 ?_
                                          obtain ⟨r176, w177, e178, hf⟩ := ra_bd hf
                                          refine rg_callVI (pc := 633) (As := []) (st := [.int r173]) C (kX6_forget (zl Z) (zG Z) C.hj k _ _ _ e178) kd_134 (by decide) rfl ysX6_forget rfl wd_871 ⟨Nat.le_of_ble_eq_true rfl, Nat.le_of_ble_eq_true rfl⟩ rfl (Nat.le_of_ble_eq_true rfl) dL_law_633 ?_
                                          refine rg_icmp_eq (pc := 636) (tgt := 756) C dL_law_636 (by decide) (fun c179 => ?_) (fun c179 => ?_)
                                          · replace hf := ra_t hf c179
                                            exact ih1 _ _ _ hf
                                          · replace hf := ra_f hf c179
                                            refine rg_iconst (pc := 639) (v := 0) C dL_law_639 (by decide) ?_
                                            cases hf
                                        · replace hf := ra_f hf c172
                                          by_cases c180 : ((xs (ra_ix v3)) &&& 31) = 19
                                          · replace hf := ra_t hf c180
                                            refine rg_tableK (pc := 32) (off := 609) (tgt := 641) C 19 c180 dL_law_32 (by decide) (by decide) (by decide) (by decide) ?_
                                            refine rg_aload_n (pc := 641) C 1 rfl rfl dL_law_641 ?_
                                            refine rg_aload_n (pc := 642) C 0 rfl rfl dL_law_642 ?_
                                            refine rg_iload_n (pc := 643) C 3 rfl rfl dL_law_643 ?_
                                            refine rg_iconst (pc := 644) (v := 1) C dL_law_644 (by decide) ?_
                                            refine rg_iadd (pc := 645) C dL_law_645 ?_
                                            obtain ⟨g181, hf⟩ := ra_gd hf
                                            refine rg_sld (pc := 646) C HX g181 dL_law_646 ?_
                                            obtain ⟨r182, w183, e184, hf⟩ := ra_bd hf
                                            refine rg_callVI (pc := 647) (As := [.int (xs (ra_ix (v3 + 1)))]) (st := []) C (kX5_ranks (zl Z) (zG Z) C.hj k _ _ _ _ e184) kd_0 (by decide) rfl ysX5_ranks rfl wd_543 ⟨Nat.le_of_ble_eq_true rfl, Nat.le_of_ble_eq_true rfl⟩ rfl (Nat.le_of_ble_eq_true rfl) dL_law_647 ?_
                                            refine rg_aload_n (pc := 650) C 2 rfl rfl dL_law_650 ?_
                                            refine rg_aload_n (pc := 651) C 0 rfl rfl dL_law_651 ?_
                                            refine rg_iload_n (pc := 652) C 3 rfl rfl dL_law_652 ?_
                                            refine rg_iconst (pc := 653) (v := 1) C dL_law_653 (by decide) ?_
                                            refine rg_iadd (pc := 654) C dL_law_654 ?_
                                            refine rg_sld (pc := 655) C HX g181 dL_law_655 ?_
                                            obtain ⟨r185, w186, e187, hf⟩ := ra_bd hf
                                            refine rg_callVI (pc := 656) (As := [.int (xs (ra_ix (v3 + 1)))]) (st := [.int r182]) C (kX6_ranks (zl Z) (zG Z) C.hj k _ _ _ _ e187) kd_134 (by decide) rfl ysX6_ranks rfl wd_875 ⟨Nat.le_of_ble_eq_true rfl, Nat.le_of_ble_eq_true rfl⟩ rfl (Nat.le_of_ble_eq_true rfl) dL_law_656 ?_
                                            refine rg_icmp_eq (pc := 659) (tgt := 756) C dL_law_659 (by decide) (fun c188 => ?_) (fun c188 => ?_)
                                            · replace hf := ra_t hf c188
                                              exact ih1 _ _ _ hf
                                            · replace hf := ra_f hf c188
                                              refine rg_iconst (pc := 662) (v := 0) C dL_law_662 (by decide) ?_
                                              cases hf
                                          · replace hf := ra_f hf c180
                                            by_cases c189 : ((xs (ra_ix v3)) &&& 31) = 20
                                            · replace hf := ra_t hf c189
                                              refine rg_tableK (pc := 32) (off := 632) (tgt := 664) C 20 c189 dL_law_32 (by decide) (by decide) (by decide) (by decide) ?_
                                              refine rg_aload_n (pc := 664) C 1 rfl rfl dL_law_664 ?_
                                              refine rg_aload_n (pc := 665) C 0 rfl rfl dL_law_665 ?_
                                              refine rg_iload_n (pc := 666) C 3 rfl rfl dL_law_666 ?_
                                              refine rg_iconst (pc := 667) (v := 1) C dL_law_667 (by decide) ?_
                                              refine rg_iadd (pc := 668) C dL_law_668 ?_
                                              obtain ⟨g190, hf⟩ := ra_gd hf
                                              refine rg_sld (pc := 669) C HX g190 dL_law_669 ?_
                                              obtain ⟨r191, w192, e193, hf⟩ := ra_bd hf
                                              refine rg_callVI (pc := 670) (As := [.int (xs (ra_ix (v3 + 1)))]) (st := []) C (kX5_look (zl Z) (zG Z) C.hj k _ _ _ _ e193) kd_0 (by decide) rfl ysX5_look rfl wd_559 ⟨Nat.le_of_ble_eq_true rfl, Nat.le_of_ble_eq_true rfl⟩ rfl (Nat.le_of_ble_eq_true rfl) dL_law_670 ?_
                                              refine rg_aload_n (pc := 673) C 2 rfl rfl dL_law_673 ?_
                                              refine rg_aload_n (pc := 674) C 0 rfl rfl dL_law_674 ?_
                                              refine rg_iload_n (pc := 675) C 3 rfl rfl dL_law_675 ?_
                                              refine rg_iconst (pc := 676) (v := 1) C dL_law_676 (by decide) ?_
                                              refine rg_iadd (pc := 677) C dL_law_677 ?_
                                              refine rg_sld (pc := 678) C HX g190 dL_law_678 ?_
                                              obtain ⟨r194, w195, e196, hf⟩ := ra_bd hf
                                              refine rg_callVI (pc := 679) (As := [.int (xs (ra_ix (v3 + 1)))]) (st := [.int r191]) C (kX6_look (zl Z) (zG Z) C.hj k _ _ _ _ e196) kd_134 (by decide) rfl ysX6_look rfl wd_887 ⟨Nat.le_of_ble_eq_true rfl, Nat.le_of_ble_eq_true rfl⟩ rfl (Nat.le_of_ble_eq_true rfl) dL_law_679 ?_
                                              refine rg_icmp_eq (pc := 682) (tgt := 756) C dL_law_682 (by decide) (fun c197 => ?_) (fun c197 => ?_)
                                              · replace hf := ra_t hf c197
                                                exact ih1 _ _ _ hf
                                              · replace hf := ra_f hf c197
                                                refine rg_iconst (pc := 685) (v := 0) C dL_law_685 (by decide) ?_
                                                cases hf
                                            · replace hf := ra_f hf c189
                                              by_cases c198 : ((xs (ra_ix v3)) &&& 31) = 21
                                              · replace hf := ra_t hf c198
                                                refine rg_tableK (pc := 32) (off := 655) (tgt := 687) C 21 c198 dL_law_32 (by decide) (by decide) (by decide) (by decide) ?_
                                                refine rg_aload_n (pc := 687) C 1 rfl rfl dL_law_687 ?_
                                                refine rg_aload_n (pc := 688) C 0 rfl rfl dL_law_688 ?_
                                                refine rg_iload_n (pc := 689) C 3 rfl rfl dL_law_689 ?_
                                                refine rg_iconst (pc := 690) (v := 1) C dL_law_690 (by decide) ?_
                                                refine rg_iadd (pc := 691) C dL_law_691 ?_
                                                obtain ⟨g199, hf⟩ := ra_gd hf
                                                refine rg_sld (pc := 692) C HX g199 dL_law_692 ?_
                                                obtain ⟨r200, w201, e202, hf⟩ := ra_bd hf
                                                refine rg_callVI (pc := 693) (As := [.int (xs (ra_ix (v3 + 1)))]) (st := []) C (kX5_keep (zl Z) (zG Z) C.hj k _ _ _ _ e202) kd_0 (by decide) rfl ysX5_keep rfl wd_567 ⟨Nat.le_of_ble_eq_true rfl, Nat.le_of_ble_eq_true rfl⟩ rfl (Nat.le_of_ble_eq_true rfl) dL_law_693 ?_
                                                refine rg_aload_n (pc := 696) C 2 rfl rfl dL_law_696 ?_
                                                refine rg_aload_n (pc := 697) C 0 rfl rfl dL_law_697 ?_
                                                refine rg_iload_n (pc := 698) C 3 rfl rfl dL_law_698 ?_
                                                refine rg_iconst (pc := 699) (v := 1) C dL_law_699 (by decide) ?_
                                                refine rg_iadd (pc := 700) C dL_law_700 ?_
                                                refine rg_sld (pc := 701) C HX g199 dL_law_701 ?_
                                                obtain ⟨r203, w204, e205, hf⟩ := ra_bd hf
                                                refine rg_callVI (pc := 702) (As := [.int (xs (ra_ix (v3 + 1)))]) (st := [.int r200]) C (kX6_keep (zl Z) (zG Z) C.hj k _ _ _ _ e205) kd_134 (by decide) rfl ysX6_keep rfl wd_891 ⟨Nat.le_of_ble_eq_true rfl, Nat.le_of_ble_eq_true rfl⟩ rfl (Nat.le_of_ble_eq_true rfl) dL_law_702 ?_
                                                refine rg_icmp_eq (pc := 705) (tgt := 756) C dL_law_705 (by decide) (fun c206 => ?_) (fun c206 => ?_)
                                                · replace hf := ra_t hf c206
                                                  exact ih1 _ _ _ hf
                                                · replace hf := ra_f hf c206
                                                  refine rg_iconst (pc := 708) (v := 0) C dL_law_708 (by decide) ?_
                                                  cases hf
                                              · replace hf := ra_f hf c198
                                                by_cases c207 : ((xs (ra_ix v3)) &&& 31) = 22
                                                · replace hf := ra_t hf c207
                                                  refine rg_tableK (pc := 32) (off := 678) (tgt := 710) C 22 c207 dL_law_32 (by decide) (by decide) (by decide) (by decide) ?_
                                                  refine rg_aload_n (pc := 710) C 1 rfl rfl dL_law_710 ?_
                                                  refine rg_aload_n (pc := 711) C 0 rfl rfl dL_law_711 ?_
                                                  refine rg_iload_n (pc := 712) C 3 rfl rfl dL_law_712 ?_
                                                  refine rg_iconst (pc := 713) (v := 1) C dL_law_713 (by decide) ?_
                                                  refine rg_iadd (pc := 714) C dL_law_714 ?_
                                                  obtain ⟨g208, hf⟩ := ra_gd hf
                                                  refine rg_sld (pc := 715) C HX g208 dL_law_715 ?_
                                                  obtain ⟨r209, w210, e211, hf⟩ := ra_bd hf
                                                  refine rg_callVI (pc := 716) (As := [.int (xs (ra_ix (v3 + 1)))]) (st := []) C (kX5_back (zl Z) (zG Z) C.hj k _ _ _ _ e211) kd_0 (by decide) rfl ysX5_back rfl wd_571 ⟨Nat.le_of_ble_eq_true rfl, Nat.le_of_ble_eq_true rfl⟩ rfl (Nat.le_of_ble_eq_true rfl) dL_law_716 ?_
                                                  refine rg_aload_n (pc := 719) C 2 rfl rfl dL_law_719 ?_
                                                  refine rg_aload_n (pc := 720) C 0 rfl rfl dL_law_720 ?_
                                                  refine rg_iload_n (pc := 721) C 3 rfl rfl dL_law_721 ?_
                                                  refine rg_iconst (pc := 722) (v := 1) C dL_law_722 (by decide) ?_
                                                  refine rg_iadd (pc := 723) C dL_law_723 ?_
                                                  refine rg_sld (pc := 724) C HX g208 dL_law_724 ?_
                                                  obtain ⟨r212, w213, e214, hf⟩ := ra_bd hf
                                                  refine rg_callVI (pc := 725) (As := [.int (xs (ra_ix (v3 + 1)))]) (st := [.int r209]) C (kX6_back (zl Z) (zG Z) C.hj k _ _ _ _ e214) kd_134 (by decide) rfl ysX6_back rfl wd_895 ⟨Nat.le_of_ble_eq_true rfl, Nat.le_of_ble_eq_true rfl⟩ rfl (Nat.le_of_ble_eq_true rfl) dL_law_725 ?_
                                                  refine rg_icmp_eq (pc := 728) (tgt := 756) C dL_law_728 (by decide) (fun c215 => ?_) (fun c215 => ?_)
                                                  · replace hf := ra_t hf c215
                                                    exact ih1 _ _ _ hf
                                                  · replace hf := ra_f hf c215
                                                    refine rg_iconst (pc := 731) (v := 0) C dL_law_731 (by decide) ?_
                                                    cases hf
                                                · replace hf := ra_f hf c207
                                                  by_cases c216 : ((xs (ra_ix v3)) &&& 31) = 23
                                                  · replace hf := ra_t hf c216
                                                    refine rg_tableK (pc := 32) (off := 701) (tgt := 733) C 23 c216 dL_law_32 (by decide) (by decide) (by decide) (by decide) ?_
                                                    refine rg_aload_n (pc := 733) C 1 rfl rfl dL_law_733 ?_
                                                    refine rg_aload_n (pc := 734) C 0 rfl rfl dL_law_734 ?_
                                                    refine rg_iload_n (pc := 735) C 3 rfl rfl dL_law_735 ?_
                                                    refine rg_iconst (pc := 736) (v := 1) C dL_law_736 (by decide) ?_
                                                    refine rg_iadd (pc := 737) C dL_law_737 ?_
                                                    obtain ⟨g217, hf⟩ := ra_gd hf
                                                    refine rg_sld (pc := 738) C HX g217 dL_law_738 ?_
                                                    obtain ⟨r218, w219, e220, hf⟩ := ra_bd hf
                                                    refine rg_callVI (pc := 739) (As := [.int (xs (ra_ix (v3 + 1)))]) (st := []) C (kX5_count (zl Z) (zG Z) C.hj k _ _ _ _ e220) kd_0 (by decide) rfl ysX5_count rfl wd_575 ⟨Nat.le_of_ble_eq_true rfl, Nat.le_of_ble_eq_true rfl⟩ rfl (Nat.le_of_ble_eq_true rfl) dL_law_739 ?_
                                                    refine rg_aload_n (pc := 742) C 2 rfl rfl dL_law_742 ?_
                                                    refine rg_aload_n (pc := 743) C 0 rfl rfl dL_law_743 ?_
                                                    refine rg_iload_n (pc := 744) C 3 rfl rfl dL_law_744 ?_
                                                    refine rg_iconst (pc := 745) (v := 1) C dL_law_745 (by decide) ?_
                                                    refine rg_iadd (pc := 746) C dL_law_746 ?_
                                                    refine rg_sld (pc := 747) C HX g217 dL_law_747 ?_
                                                    obtain ⟨r221, w222, e223, hf⟩ := ra_bd hf
                                                    refine rg_callVI (pc := 748) (As := [.int (xs (ra_ix (v3 + 1)))]) (st := [.int r218]) C (kX6_count (zl Z) (zG Z) C.hj k _ _ _ _ e223) kd_134 (by decide) rfl ysX6_count rfl wd_899 ⟨Nat.le_of_ble_eq_true rfl, Nat.le_of_ble_eq_true rfl⟩ rfl (Nat.le_of_ble_eq_true rfl) dL_law_748 ?_
                                                    refine rg_icmp_eq (pc := 751) (tgt := 756) C dL_law_751 (by decide) (fun c224 => ?_) (fun c224 => ?_)
                                                    · replace hf := ra_t hf c224
                                                      exact ih1 _ _ _ hf
                                                    · replace hf := ra_f hf c224
                                                      refine rg_iconst (pc := 754) (v := 0) C dL_law_754 (by decide) ?_
                                                      cases hf
                                                  · replace hf := ra_f hf c216
                                                    refine rg_tableOut (pc := 32) (tgt := 756) C dL_law_32 (by have nc3 := lv_neT (a := 0) c3 (by decide); have nc12 := lv_neT (a := 1) c12 (by decide); have nc20 := lv_neT (a := 2) c20 (by decide); have nc28 := lv_neT (a := 3) c28 (by decide); have nc37 := lv_neT (a := 4) c37 (by decide); have nc47 := lv_neT (a := 5) c47 (by decide); have nc56 := lv_neT (a := 6) c56 (by decide); have nc66 := lv_neT (a := 7) c66 (by decide); have nc75 := lv_neT (a := 8) c75 (by decide); have nc83 := lv_neT (a := 9) c83 (by decide); have nc93 := lv_neT (a := 10) c93 (by decide); have nc103 := lv_neT (a := 11) c103 (by decide); have nc112 := lv_neT (a := 12) c112 (by decide); have nc121 := lv_neT (a := 13) c121 (by decide); have nc130 := lv_neT (a := 14) c130 (by decide); have nc140 := lv_neT (a := 15) c140 (by decide); have nc150 := lv_neT (a := 16) c150 (by decide); have nc162 := lv_neT (a := 17) c162 (by decide); have nc172 := lv_neT (a := 18) c172 (by decide); have nc180 := lv_neT (a := 19) c180 (by decide); have nc189 := lv_neT (a := 20) c189 (by decide); have nc198 := lv_neT (a := 21) c198 (by decide); have nc207 := lv_neT (a := 22) c207 (by decide); have nc216 := lv_neT (a := 23) c216 (by decide); omega) (by decide) ?_
                                                    exact ih1 _ _ _ hf
set_option maxHeartbeats 4000000 in
theorem tL_law_1 {Z : ra_Z} {b L : Nat} {xs : Nat → Int32} (C : ra_C Z code 4 RL 10 382) (HX : ra_X Z b L xs) (hQ : ra_QL Z b) (k : Nat) (n : Nat) (ih0 : pL_law_0 Z b k L xs n) : pL_law_1 Z b k L xs (n + 1) := by
  intro v3 w y hf
  rw [fL_law_1] at hf
  refine rg_iinc (pc := 756) (v := (v3 + 5)) (lv' := [(0, .ref b), (1, .ref ((zG Z).1 0)), (2, .ref ((zG Z).1 134)), (3, .int (v3 + 5))]) C 3 rfl [1, 2, 3, 0] (ra_ii (by decide)) rfl (by decide) dL_law_756 ?_
  refine rg_goto (pc := 759) (tgt := 18) C dL_law_759 (by decide) ?_
  exact ih0 _ _ _ hf
theorem tL_law {Z : ra_Z} {b L : Nat} {xs : Nat → Int32} (C : ra_C Z code 4 RL 10 382) (HX : ra_X Z b L xs) (hQ : ra_QL Z b) (k : Nat) : ∀ n : Nat, pL_law_0 Z b k L xs n ∧ pL_law_1 Z b k L xs n := by
  intro n
  induction n with
  | zero => exact ⟨(fun _ _ _ h => by cases h), (fun _ _ _ h => by cases h)⟩
  | succ n ih =>
    obtain ⟨ih0, ih1⟩ := ih
    exact ⟨tL_law_0 C HX hQ k n ih1, tL_law_1 C HX hQ k n ih0⟩
