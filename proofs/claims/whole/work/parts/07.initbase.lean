/-! constructors: worlds that grow -/
def ra_I (Z : ra_Z) (nL pc : Nat) (lv : List (Nat × Value)) (st : List Value) (ws : va_W) (cs sl : Nat) : Prop :=
  ∀ (ls : Array Slot) (H : Heap) (locs : List Loc), lv_has ls nL lv → va_P (zG Z).2.1 vwCl ws H → va_D (zA Z) ws → va_S (zA Z) (zs Z).heap H locs →
    W (zp Z) (zl Z) (ze Z) (zR Z) (zs Z) (zm Z) (zar Z) (zbl Z) (zmt Z) (zc Z) H locs cs sl (zQ Z) (F0 (zm Z) pc ls st)
def ra_CI (Z : ra_Z) (cc : ByteArray) (nL : Nat) (own : String) (fr lo mc ms : Nat) : Prop :=
  ((zp Z).tables.exec = Jvm.exec ∧ (zc Z).code = cc ∧ (zc Z).maxLocals = nL ∧ (zs Z).vm.findClass own = some (zm Z).cls) ∧ (∀ w ∈ TW, w.before (zar Z) (zs Z) = true) ∧ va_K (zG Z).2.1 vwCl (ra_tys (zG Z)) (zs Z) ∧ (∀ q : Nat, (zs Z).heap.size ≤ q → zA Z q) ∧ (fr ≤ (zR Z).frames ∧ lo ≤ (zR Z).locals) ∧ (mc ≤ (zR Z).cells ∧ ms ≤ (zR Z).slots) ∧ (zmt Z).locks = false ∧ va_AO "TrunkRadio$State" (zs Z)
def ra_MN (l : Launch) (G : ra_G) (y : MethodName) (cc : ByteArray) (nL fr lo mc ms : Nat) (av : List Value) (wc : va_W) (Pw : va_W → Prop) : Prop :=
  ∀ sz : Nat, Met l y (.code y cc nL none :: TW) { frames := fr, cells := mc, slots := ms, locals := lo } (va_Pc av (fun U => U.heap.size = sz ∧ va_P G.2.1 vwCl wc U.heap ∧ va_K G.2.1 vwCl (ra_tys G) U ∧ va_D (fun _ => True) wc ∧ va_AO "TrunkRadio$State" U)) (va_Qv (fun (_ : Unit) => True) (fun _ t => ∃ w1 : va_W, Pw w1 ∧ va_P G.2.1 vwCl w1 t.heap ∧ va_K G.2.1 vwCl (ra_tys G) t ∧ va_D (va_A wc sz) w1) (va_A wc sz)) mc ms (va_A wc sz)
def ra_QN (Z : ra_Z) (Pw : va_W → Prop) (mc ms : Nat) : Prop := zQ Z = MQ (zbl Z) (va_Qv (fun (_ : Unit) => True) (fun _ t => ∃ w1 : va_W, Pw w1 ∧ va_P (zG Z).2.1 vwCl w1 t.heap ∧ va_K (zG Z).2.1 vwCl (ra_tys (zG Z)) t ∧ va_D (zA Z) w1) (zA Z)) (zar Z) (zs Z) mc ms (zA Z)
theorem ra_picks {ws wc : va_W} {is : List Nat} (hC : is.map (fun i => ws[i]?) = wc.map some) (k : Nat) (q : Nat × va_E) (hq : wc[k]? = some q) : ∃ i, is[k]? = some i ∧ ws[i]? = some q := by
  have h1 : (is.map (fun i => ws[i]?))[k]? = some (some q) := by rw [hC, List.getElem?_map, hq]; rfl
  rw [List.getElem?_map] at h1
  cases hi : is[k]? with
  | none => rw [hi] at h1; cases h1
  | some i => rw [hi] at h1; exact ⟨i, rfl, Option.some.inj h1⟩
theorem ra_subP {D : va_G} {cl : List vw_C} {ws wc : va_W} {H : Heap} {is : List Nat} (h : va_P D cl ws H) (hC : is.map (fun i => ws[i]?) = wc.map some) : va_P D cl wc H := fun k q hq => by
  obtain ⟨i, -, h2⟩ := ra_picks hC k q hq
  exact h i q h2
section RI
variable {Z : ra_Z} {cc : ByteArray} {nL : Nat} {own : String} {fr lo mc ms : Nat} {pc : Nat} {lv : List (Nat × Value)} {st : List Value} {ws : va_W} {cs sl : Nat}
theorem ra_CI.hx (C : ra_CI Z cc nL own fr lo mc ms) : (zp Z).tables.exec = Jvm.exec := C.1.1
theorem ra_CI.hb (C : ra_CI Z cc nL own fr lo mc ms) : (zc Z).code = cc := C.1.2.1
theorem ra_CI.hml (C : ra_CI Z cc nL own fr lo mc ms) : (zc Z).maxLocals = nL := C.1.2.2.1
theorem ra_CI.hown (C : ra_CI Z cc nL own fr lo mc ms) : (zs Z).vm.findClass own = some (zm Z).cls := C.1.2.2.2
theorem ra_CI.hts (C : ra_CI Z cc nL own fr lo mc ms) : ∀ w ∈ TW, w.before (zar Z) (zs Z) = true := C.2.1
theorem ra_CI.hK (C : ra_CI Z cc nL own fr lo mc ms) : va_K (zG Z).2.1 vwCl (ra_tys (zG Z)) (zs Z) := C.2.2.1
theorem ra_CI.hA (C : ra_CI Z cc nL own fr lo mc ms) : ∀ q : Nat, (zs Z).heap.size ≤ q → zA Z q := C.2.2.2.1
theorem ra_CI.hro (C : ra_CI Z cc nL own fr lo mc ms) : fr ≤ (zR Z).frames ∧ lo ≤ (zR Z).locals := C.2.2.2.2.1
theorem ra_CI.hce (C : ra_CI Z cc nL own fr lo mc ms) : mc ≤ (zR Z).cells ∧ ms ≤ (zR Z).slots := C.2.2.2.2.2.1
theorem ra_CI.hlk (C : ra_CI Z cc nL own fr lo mc ms) : (zmt Z).locks = false := C.2.2.2.2.2.2.1
theorem ra_CI.hao (C : ra_CI Z cc nL own fr lo mc ms) : va_AO "TrunkRadio$State" (zs Z) := C.2.2.2.2.2.2.2
theorem ri_perm (is : List Nat) {ws' : va_W} (hn : va_nd is = true) (hC : is.map (fun i => ws[i]?) = ws'.map some) (k : ra_I Z nL pc lv st ws' cs sl) : ra_I Z nL pc lv st ws cs sl := fun ls H locs hl hP hD hS => k ls H locs hl (ra_subP hP hC) (hD.sub is hn hC) hS
theorem ri_eq {ws' : va_W} (e : ws = ws') (k : ra_I Z nL pc lv st ws' cs sl) : ra_I Z nL pc lv st ws cs sl := by rw [e]; exact k
theorem ri_aload_n (C : ra_CI Z cc nL own fr lo mc ms) {k : Fin 4} {i : Nat} {x : Nat} (j : Nat) (hj : lv[j]? = some (i, .ref x)) (hi : (k : Nat) = i) (hd : decode cc pc = .ok (.aload_n k, 1)) (kk : ra_I Z nL (pc + 1) lv (.ref x :: st) ws cs sl) : ra_I Z nL pc lv st ws cs sl := fun ls H locs hl hP hD hS => lv_aload_n C.hx C.hb hd hi (lv_at hl j hj) (kk ls H locs hl hP hD hS)
theorem ri_iload_n (C : ra_CI Z cc nL own fr lo mc ms) {k : Fin 4} {i : Nat} {x : Int32} (j : Nat) (hj : lv[j]? = some (i, .int x)) (hi : (k : Nat) = i) (hd : decode cc pc = .ok (.iload_n k, 1)) (kk : ra_I Z nL (pc + 1) lv (.int x :: st) ws cs sl) : ra_I Z nL pc lv st ws cs sl := fun ls H locs hl hP hD hS => lv_iload_n C.hx C.hb hd hi (lv_at hl j hj) (kk ls H locs hl hP hD hS)
theorem ri_iconst (C : ra_CI Z cc nL own fr lo mc ms) {n : Int} {v : Int32} (hd : decode cc pc = .ok (.iconst n, 1)) (hv : Int32.ofInt n = v) (k : ra_I Z nL (pc + 1) lv (.int v :: st) ws cs sl) : ra_I Z nL pc lv st ws cs sl := fun ls H locs hl hP hD hS => lv_iconst C.hx C.hb hd hv (k ls H locs hl hP hD hS)
theorem ri_bipush (C : ra_CI Z cc nL own fr lo mc ms) {n : Int} {v : Int32} (hd : decode cc pc = .ok (.bipush n, 2)) (hv : (Int8.ofInt n).toInt32 = v) (k : ra_I Z nL (pc + 2) lv (.int v :: st) ws cs sl) : ra_I Z nL pc lv st ws cs sl := fun ls H locs hl hP hD hS => lv_bipush C.hx C.hb hd hv (k ls H locs hl hP hD hS)
theorem ri_sipush (C : ra_CI Z cc nL own fr lo mc ms) {n : Int} {v : Int32} (hd : decode cc pc = .ok (.sipush n, 3)) (hv : (Int16.ofInt n).toInt32 = v) (k : ra_I Z nL (pc + 3) lv (.int v :: st) ws cs sl) : ra_I Z nL pc lv st ws cs sl := fun ls H locs hl hP hD hS => lv_sipush C.hx C.hb hd hv (k ls H locs hl hP hD hS)
theorem ri_dup (C : ra_CI Z cc nL own fr lo mc ms) {a : Value} (h : a.category = 1) (hd : decode cc pc = .ok (.dup, 1)) (k : ra_I Z nL (pc + 1) lv (a :: a :: st) ws cs sl) : ra_I Z nL pc lv (a :: st) ws cs sl := fun ls H locs hl hP hD hS => lv_dup C.hx C.hb hd h (k ls H locs hl hP hD hS)
theorem ri_goto (C : ra_CI Z cc nL own fr lo mc ms) {off : Int} {tgt : Nat} (hd : decode cc pc = .ok (.goto off, 3)) (ht : (pc : Int) + off = (tgt : Int)) (k : ra_I Z nL tgt lv st ws cs sl) : ra_I Z nL pc lv st ws cs sl := fun ls H locs hl hP hD hS => lv_goto C.hx C.hb hd ht (k ls H locs hl hP hD hS)
theorem ri_icmp_geT (C : ra_CI Z cc nL own fr lo mc ms) {x y : Int32} {off : Int} {tgt : Nat} (h : y ≤ x) (hd : decode cc pc = .ok (.if_icmp .ge off, 3)) (ht : (pc : Int) + off = (tgt : Int)) (kt : ra_I Z nL tgt lv st ws cs sl) : ra_I Z nL pc lv (.int y :: .int x :: st) ws cs sl := fun ls H locs hl hP hD hS => lv_icmp_ge C.hx C.hb hd ht (fun _ => kt ls H locs hl hP hD hS) (fun q => absurd h q)
theorem ri_icmp_geF (C : ra_CI Z cc nL own fr lo mc ms) {x y : Int32} {off : Int} {tgt : Nat} (h : ¬ y ≤ x) (hd : decode cc pc = .ok (.if_icmp .ge off, 3)) (ht : (pc : Int) + off = (tgt : Int)) (kf : ra_I Z nL (pc + 3) lv st ws cs sl) : ra_I Z nL pc lv (.int y :: .int x :: st) ws cs sl := fun ls H locs hl hP hD hS => lv_icmp_ge C.hx C.hb hd ht (fun q => absurd q h) (fun _ => kf ls H locs hl hP hD hS)
theorem ri_istore_n (C : ra_CI Z cc nL own fr lo mc ms) {k : Fin 4} {i : Nat} {x : Int32} {lv' : List (Nat × Value)} (ks : List Nat) (hl' : lv_pick ((i, Value.int x) :: lv.filter (fun q => !(q.1 == i) && !(q.1 + 1 == i && q.2.category == 2))) ks = lv') (hi : (k : Nat) = i) (hn : i < nL) (hd : decode cc pc = .ok (.istore_n k, 1)) (kk : ra_I Z nL (pc + 1) lv' st ws cs sl) : ra_I Z nL pc lv (.int x :: st) ws cs sl := fun _ H locs hl hP hD hS => lv_istore_n C.hx C.hb hd hi hl hn rfl (fun ls' h' => kk ls' H locs (lv_sub h' ks hl') hP hD hS)
theorem ri_astore_n (C : ra_CI Z cc nL own fr lo mc ms) {k : Fin 4} {i : Nat} {x : Nat} {lv' : List (Nat × Value)} (ks : List Nat) (hl' : lv_pick ((i, Value.ref x) :: lv.filter (fun q => !(q.1 == i) && !(q.1 + 1 == i && q.2.category == 2))) ks = lv') (hi : (k : Nat) = i) (hn : i < nL) (hd : decode cc pc = .ok (.astore_n k, 1)) (kk : ra_I Z nL (pc + 1) lv' st ws cs sl) : ra_I Z nL pc lv (.ref x :: st) ws cs sl := fun _ H locs hl hP hD hS => lv_astore_n C.hx C.hb hd hi hl hn rfl (fun ls' h' => kk ls' H locs (lv_sub h' ks hl') hP hD hS)
theorem ri_iinc (C : ra_CI Z cc nL own fr lo mc ms) {i : Nat} {n : Int} {x v : Int32} {lv' : List (Nat × Value)} (j : Nat) (hj : lv[j]? = some (i, .int x)) (ks : List Nat) (hv : x + Int32.ofInt n = v) (hl' : lv_pick ((i, Value.int v) :: lv.filter (fun q => !(q.1 == i) && !(q.1 + 1 == i && q.2.category == 2))) ks = lv') (hn : i < nL) (hd : decode cc pc = .ok (.iinc i n, 3)) (kk : ra_I Z nL (pc + 3) lv' st ws cs sl) : ra_I Z nL pc lv st ws cs sl := fun _ H locs hl hP hD hS => lv_iinc C.hx C.hb hd hl hj hv hn rfl (fun ls' h' => kk ls' H locs (lv_sub h' ks hl') hP hD hS)
theorem ri_obj (C : ra_CI Z cc nL own fr lo mc ms) {idx q : Nat} (hlk : Cond.methodLink own idx objectInit ∈ TW) (hin : Cond.instanceMethod objectInit ∈ TW) (hco : Cond.code objectInit ⟨#[0xb1]⟩ 1 none ∈ TW) (hfr : 1 ≤ fr) (hlo : (st.map fun v => v.category).sum + 12 ≤ lo) (hd : decode cc pc = .ok (.invokespecial idx, 3)) (kk : ra_I Z nL (pc + 3) lv st ws cs sl) : ra_I Z nL pc lv (.ref q :: st) ws cs sl := fun ls H locs hl hP hD hS =>
  W.objInit C.hx C.hb C.hown (C.hts _ hlk) (C.hts _ hin) (C.hts _ hco) rfl (hl.1.trans C.hml.symm) rfl hd (Nat.le_trans hfr C.hro.1) (by show 2 * 0 + _ + 12 ≤ _; exact Nat.le_trans (by omega) C.hro.2) (kk ls H locs hl hP hD hS)
theorem ri_newa (C : ra_CI Z cc nL own fr lo mc ms) {n : Int32} {N' : Nat} (hw : Cond.arrayClass .int ∈ TW) (hn : ¬ n < 0) (hN : n.toNatClampNeg = N') (hby : N' * componentBytes .int ≤ 536870912) (hcs : cs + 1 ≤ mc) (hsl : sl + N' ≤ ms) (hd : decode cc pc = .ok (.newarray .int, 2)) (kk : ∀ q : Nat, ra_I Z nL (pc + 2) lv (.ref q :: st) (ws ++ [(q, .inl ((zG Z).2.2.1, N', .inl (fun _ => 0)))]) (cs + 1) (sl + N')) : ra_I Z nL pc lv (.int n :: st) ws cs sl := by
  intro ls H locs hl hP hD hS
  refine va_newa (atype := .int) (ty := .int) (a0 := (N', .inl (fun _ => 0))) C.hx C.hb (C.hts _ hw) rfl C.hK hP hD hS C.hA (fun _ => rfl) hn hN hby (Nat.le_trans hcs C.hce.1) (Nat.le_trans hsl C.hce.2) hd (fun q cA H1 hK1 hP1 hD1 hS1 => ?_)
  have e1 : (zs Z).vm.findClass ("[" ++ FieldType.int.toString) = some cA := (hK1.2 3 (cA, .int) rfl).2
  have e2 : (zs Z).vm.findClass ("[" ++ FieldType.int.toString) = some (zG Z).2.2.1 := (C.hK.2 0 ((zG Z).2.2.1, .int) rfl).2
  have e : cA = (zG Z).2.2.1 := Option.some.inj (e1.symm.trans e2)
  subst e
  exact kk q ls H1 locs hl hP1 hD1 hS1
theorem ri_newz (C : ra_CI Z cc nL own fr lo mc ms) {n : Int32} {N' : Nat} (hw : Cond.arrayClass .boolean ∈ TW) (hn : ¬ n < 0) (hN : n.toNatClampNeg = N') (hby : N' * componentBytes .boolean ≤ 536870912) (hcs : cs + 1 ≤ mc) (hsl : sl + N' ≤ ms) (hd : decode cc pc = .ok (.newarray .boolean, 2)) (kk : ∀ q : Nat, ra_I Z nL (pc + 2) lv (.ref q :: st) (ws ++ [(q, .inl ((zG Z).2.2.2.1, N', .inl (fun _ => 0)))]) (cs + 1) (sl + N')) : ra_I Z nL pc lv (.int n :: st) ws cs sl := by
  intro ls H locs hl hP hD hS
  refine va_newa (atype := .boolean) (ty := .boolean) (a0 := (N', .inl (fun _ => 0))) C.hx C.hb (C.hts _ hw) rfl C.hK hP hD hS C.hA (fun _ => rfl) hn hN hby (Nat.le_trans hcs C.hce.1) (Nat.le_trans hsl C.hce.2) hd (fun q cA H1 hK1 hP1 hD1 hS1 => ?_)
  have e1 : (zs Z).vm.findClass ("[" ++ FieldType.boolean.toString) = some cA := (hK1.2 3 (cA, .boolean) rfl).2
  have e2 : (zs Z).vm.findClass ("[" ++ FieldType.boolean.toString) = some (zG Z).2.2.2.1 := (C.hK.2 1 ((zG Z).2.2.2.1, .boolean) rfl).2
  have e : cA = (zG Z).2.2.2.1 := Option.some.inj (e1.symm.trans e2)
  subst e
  exact kk q ls H1 locs hl hP1 hD1 hS1
theorem ri_newq (C : ra_CI Z cc nL own fr lo mc ms) {n : Int32} {N' idx : Nat} (hcl : Cond.classLink own idx RX4 ∈ TW) (hn : ¬ n < 0) (hN : n.toNatClampNeg = N') (hby : N' * 4 ≤ 536870912) (hcs : cs + 1 ≤ mc) (hsl : sl + N' ≤ ms) (hd : decode cc pc = .ok (.anewarray idx, 3)) (kk : ∀ q : Nat, ra_I Z nL (pc + 3) lv (.ref q :: st) (ws ++ [(q, .inl ((zG Z).2.2.2.2, N', .inr (.inr (.inr (.inr (fun _ => none))))))]) (cs + 1) (sl + N')) : ra_I Z nL pc lv (.int n :: st) ws cs sl := by
  intro ls H locs hl hP hD hS
  refine va_newq (C := RX4) C.hx C.hb C.hown (C.hts _ hcl) C.hao C.hK hP hD hS C.hA hn hN hby (Nat.le_trans hcs C.hce.1) (Nat.le_trans hsl C.hce.2) hd (fun q cA H1 hK1 hP1 hD1 hS1 => ?_)
  have e1 : va_RA (zs Z) cA (.object RX4) := (hK1.2 3 (cA, .object RX4) rfl).2
  have e2 : va_RA (zs Z) (zG Z).2.2.2.2 (.object RX4) := (C.hK.2 2 ((zG Z).2.2.2.2, .object RX4) rfl).2
  obtain ⟨_, _, _, _, _, e1⟩ := e1
  obtain ⟨_, _, _, _, _, e2⟩ := e2
  have e : cA = (zG Z).2.2.2.2 := Option.some.inj (e1.symm.trans e2)
  subst e
  exact kk q ls H1 locs hl hP1 hD1 hS1
theorem ri_new (C : ra_CI Z cc nL own fr lo mc ms) (ci : Nat) {Cn : String} {T : u_T} {N idx : Nat} (hcl : vwCl[ci]? = some (Cn, T, N)) (hin : ∀ w ∈ u_ws Cn T N, w ∈ TW) (ty : Nat → FieldType) (hty : ∀ k, k < N → parseFieldDescriptor (T k).2.2.1 = some (ty k)) (h1 : Cond.classLink own idx Cn ∈ TW) (h2 : Cond.instantiable Cn N ∈ TW) (h3 : Cond.initialized Cn ∈ TW) {fs : List Value} (hfs : ∀ j, j < N → defaultValue (ty j) = vp_V fs j) (hcs : cs + 1 ≤ mc) (hsl : sl + N ≤ ms) (hd : decode cc pc = .ok (.new idx, 3)) (kk : ∀ q : Nat, ra_I Z nL (pc + 3) lv (.ref q :: st) (ws ++ [(q, .inr (ci, fs))]) (cs + 1) (sl + N)) : ra_I Z nL pc lv st ws cs sl :=
  fun ls H locs hl hP hD hS => va_new C.hx C.hb C.hts hin ty hty C.hown (C.hts _ h1) (C.hts _ h2) (C.hts _ h3) C.hK hP hD hS C.hA hcl hfs (Nat.le_trans hcs C.hce.1) (Nat.le_trans hsl C.hce.2) hd (fun q H1 hP1 hD1 hS1 => kk q ls H1 locs hl hP1 hD1 hS1)
theorem ri_get (C : ra_CI Z cc nL own fr lo mc ms) (q0 ci j : Nat) {a : Nat} {fs : List Value} (he : ws[q0]? = some (a, .inr (ci, fs))) {Cn : String} {T : u_T} {N idx : Nat} (hcl : vwCl[ci]? = some (Cn, T, N)) (hin : ∀ w ∈ u_ws Cn T N, w ∈ TW) (hj : j < N) (hlk : Cond.fieldLink own idx (T j).1 (T j).2.1 (T j).2.2.1 ∈ TW) {v : Value} (hv : fs[j]? = some v) (hd : decode cc pc = .ok (.getfield idx, 3)) (kk : ra_I Z nL (pc + 3) lv (v :: st) ws cs sl) : ra_I Z nL pc lv (.ref a :: st) ws cs sl :=
  fun ls H locs hl hP hD hS => va_get (D := (zG Z).2.1) C.hx C.hb C.hts hin C.hown C.hK hP q0 he hcl j hj (C.hts _ hlk) (fun _ h => h) hv hd (kk ls H locs hl hP hD hS)
theorem ri_put (C : ra_CI Z cc nL own fr lo mc ms) (q0 ci j : Nat) {a : Nat} {fs : List Value} (he : ws[q0]? = some (a, .inr (ci, fs))) {Cn : String} {T : u_T} {N idx : Nat} (hcl : vwCl[ci]? = some (Cn, T, N)) (hin : ∀ w ∈ u_ws Cn T N, w ∈ TW) (ty0 : Nat → FieldType) (hty : ∀ k, k < N → parseFieldDescriptor (T k).2.2.1 = some (ty0 k)) (hnm : ∀ a, a < N → ∀ b, b < N → a ≠ b → (T a).2.1 ≠ (T b).2.1) (hj : j < N) (hlk : Cond.fieldLink own idx (T j).1 (T j).2.1 (T j).2.2.1 ∈ TW) (hfin : (T j).2.2.2 = false) {v : Value} (hn : narrow (ty0 j) v = v) (hfit : fits (ty0 j) v = true) (hl0 : j < fs.length) {ws' : va_W} (hset : ws.set q0 (a, .inr (ci, fs.set j v)) = ws') (hd : decode cc pc = .ok (.putfield idx, 3)) (kk : ra_I Z nL (pc + 3) lv st ws' cs sl) : ra_I Z nL pc lv (v :: .ref a :: st) ws cs sl := by
  subst hset
  exact fun ls H locs hl hP hD hS => va_put (D := (zG Z).2.1) (ty := ty0 j) C.hx C.hb C.hts hin ty0 hty hnm C.hown C.hK hP hD hS q0 he hcl j hj (C.hts _ hlk) (fun _ h => h) hfin (hty j hj) hn hfit hl0 hd (fun H1 locs1 hP1 hD1 hS1 => kk ls H1 locs1 hl hP1 hD1 hS1)
theorem ri_putF (C : ra_CI Z cc nL own fr lo mc ms) (hin2 : (zmt Z).name = "<init>") (q0 ci j : Nat) {a : Nat} {fs : List Value} (he : ws[q0]? = some (a, .inr (ci, fs))) {Cn : String} {T : u_T} {N idx : Nat} (hcl : vwCl[ci]? = some (Cn, T, N)) (hin : ∀ w ∈ u_ws Cn T N, w ∈ TW) (ty0 : Nat → FieldType) (hty : ∀ k, k < N → parseFieldDescriptor (T k).2.2.1 = some (ty0 k)) (hnm : ∀ a, a < N → ∀ b, b < N → a ≠ b → (T a).2.1 ≠ (T b).2.1) (hj : j < N) (hlk : Cond.fieldLink own idx (T j).1 (T j).2.1 (T j).2.2.1 ∈ TW) (hfin : (T j).2.2.2 = true) (hdecl : (T j).1 = own) {v : Value} (hn : narrow (ty0 j) v = v) (hfit : fits (ty0 j) v = true) (hl0 : j < fs.length) {ws' : va_W} (hset : ws.set q0 (a, .inr (ci, fs.set j v)) = ws') (hd : decode cc pc = .ok (.putfield idx, 3)) (kk : ra_I Z nL (pc + 3) lv st ws' cs sl) : ra_I Z nL pc lv (v :: .ref a :: st) ws cs sl := by
  subst hset
  exact fun ls H locs hl hP hD hS => va_putF (D := (zG Z).2.1) (ty := ty0 j) C.hx C.hb C.hts hin ty0 hty hnm C.hown C.hK hP hD hS q0 he hcl j hj (C.hts _ hlk) (fun _ h => h) hfin hin2 hdecl (hty j hj) hn hfit hl0 hd (fun H1 locs1 hP1 hD1 hS1 => kk ls H1 locs1 hl hP1 hD1 hS1)
theorem ri_iast (C : ra_CI Z cc nL own fr lo mc ms) (q0 : Nat) {a n : Nat} {f : Nat → Int32} (he : ws[q0]? = some (a, .inl ((zG Z).2.2.1, n, .inl f))) {i x : Int32} {j : Nat} (hj : ra_ix i = j) (hin : ra_in i n) {ws' : va_W} (hset : ws.set q0 (a, .inl ((zG Z).2.2.1, n, .inl (upd f j x))) = ws') (hd : decode cc pc = .ok (.iastore, 1)) (kk : ra_I Z nL (pc + 1) lv st ws' cs sl) : ra_I Z nL pc lv (.int x :: .int i :: .ref a :: st) ws cs sl := by
  subst hj
  subst hset
  exact fun ls H locs hl hP hD hS => va_iast (D := (zG Z).2.1) C.hx C.hb C.hK hP hD hS q0 0 he rfl hin hd (fun H1 locs1 hP1 hD1 hS1 => kk ls H1 locs1 hl hP1 hD1 hS1)
theorem ri_aast (C : ra_CI Z cc nL own fr lo mc ms) (q0 qk : Nat) {a v n : Nat} {f : Nat → Option Nat} {vs : List Value} (he : ws[q0]? = some (a, .inl ((zG Z).2.2.2.2, n, .inr (.inr (.inr (.inr f)))))) (hv : ws[qk]? = some (v, .inr (4, vs))) {i : Int32} {j : Nat} (hj : ra_ix i = j) (hin : ra_in i n) {ws' : va_W} (hset : ws.set q0 (a, .inl ((zG Z).2.2.2.2, n, .inr (.inr (.inr (.inr (va_up f j (some v))))))) = ws') (hd : decode cc pc = .ok (.aastore, 1)) (kk : ra_I Z nL (pc + 1) lv st ws' cs sl) : ra_I Z nL pc lv (.ref v :: .int i :: .ref a :: st) ws cs sl := by
  subst hj
  subst hset
  exact fun ls H locs hl hP hD hS => va_astq (D := (zG Z).2.1) (r := (RX4, TX4, 10)) C.hx C.hb C.hK hP hD hS q0 2 qk 4 he rfl hv rfl hin hd (fun H1 locs1 hP1 hD1 hS1 => kk ls H1 locs1 hl hP1 hD1 hS1)
theorem ri_vret (C : ra_CI Z cc nL own fr lo mc ms) {Pw : va_W → Prop} (hQ : ra_QN Z Pw mc ms) (hr : (zmt Z).sig.returnType = none) (hp : Pw ws) (hcs : cs ≤ mc ∧ sl ≤ ms) (hd : decode cc pc = .ok (.return_, 1)) : ra_I Z nL pc lv [] ws cs sl := by
  intro ls H locs hl hP hD hS
  refine W.widen (k := mc) (n := ms) hcs.1 hcs.2 ?_
  rw [hQ]
  exact W.vret C.hx C.hb hr (fun t ht hW => ⟨⟨(), rfl, trivial, ws, hp, by rw [ht]; exact hP, va_K.moved hW.alike C.hK, hD⟩, hS.F ht⟩) hS.2.2 hd C.hlk
theorem ra_blindN (G : ra_G) (wc : va_W) (sz : Nat) (av : List Value) : FrameBlind (va_Pc av (fun U => U.heap.size = sz ∧ va_P G.2.1 vwCl wc U.heap ∧ va_K G.2.1 vwCl (ra_tys G) U ∧ va_D (fun _ => True) wc ∧ va_AO "TrunkRadio$State" U)) := fun a U g mk q => by
  obtain ⟨q0, q1, qP, qK, qD, qA⟩ := q
  exact ⟨q0, q1, qP, va_K.moved (u := U) (U := U.calling g mk a) (Vm.Alike.refl U.vm) qK, qD, va_AO.moved (u := U) (U := U.calling g mk a) (Vm.Alike.refl U.vm) qA⟩
theorem ra_callN (C : ra_CI Z cc nL own fr lo mc ms) {y : MethodName} {bytes : ByteArray} {maxL n fr' lo' mc' ms' idx : Nat} (hY : ra_Y y bytes maxL none n) (hlk : Cond.methodLink own idx y ∈ TW) (hR : fr' + 1 ≤ fr ∧ 8 + (maxL + 11) + lo' ≤ lo) : CallB (zR Z) (zs Z) (zar Z) own idx y bytes maxL none (.code y bytes maxL none :: TW) { frames := fr', cells := mc', slots := ms', locals := lo' } mc' ms' n :=
  callB_of n C.hts (ra_good hY.2.1) rfl rfl rfl (C.hts _ hY.1) (C.hts _ hlk) hY.2.2 ⟨Nat.le_trans hR.1 C.hro.1, Nat.le_trans hR.2 C.hro.2⟩
theorem ri_callI (C : ra_CI Z cc nL own fr lo mc ms) {y : MethodName} {bytes : ByteArray} {maxL fr' lo' mc' ms' idx q : Nat} {wc wr : va_W} {Pw : va_W → Prop} (hM : ra_MN (zl Z) (zG Z) y bytes maxL fr' lo' mc' ms' [.ref q] wc Pw) (hY : ra_Y y bytes maxL none 0) (hy : y.name = "<init>") (hin : Cond.instanceMethod y ∈ TW) (hlk : Cond.methodLink own idx y ∈ TW) (hR : fr' + 1 ≤ fr ∧ 8 + (maxL + 11) + lo' ≤ lo) (isC isR : List Nat) (hC : isC.map (fun i => ws[i]?) = wc.map some) (hRr : isR.map (fun i => ws[i]?) = wr.map some) (hnC : va_nd isC = true) (hnR : va_nd isR = true) (hdis : ∀ i ∈ isR, i ∉ isC) (hfit : cs + mc' ≤ mc ∧ sl + ms' ≤ ms) (hst : (st.map fun v => v.category).sum ≤ 8) (hd : decode cc pc = .ok (.invokespecial idx, 3)) (kk : ∀ w1, Pw w1 → ra_I Z nL (pc + 3) lv st (wr ++ w1) (cs + mc') (sl + ms')) : ra_I Z nL pc lv (.ref q :: st) ws cs sl := by
  intro ls H locs hl hP hD hS
  have hFc := va_free (wc := wc) hD hS C.hA isC hC
  refine va_callv (va_runI (As := []) (rest := st) (cc := cc) (nL := nL) (Ts := TW) ⟨C.hx, C.hb, C.hml, C.hown, C.hts⟩ (hM H.size) ⟨ra_callN C hY hlk hR, hy, C.hts _ hin⟩ ⟨ra_blindN _ _ _ _, fun U hU hW => ⟨rfl, by rw [hU], by rw [hU]; exact ra_subP hP hC, va_K.moved hW.alike C.hK, (hD.sub isC hnC hC).weaken (fun _ _ _ _ => trivial), va_AO.moved hW.alike C.hao⟩⟩ rfl rfl hl.1 rfl (lv_room hst) hd ⟨Nat.le_trans hfit.1 C.hce.1, Nat.le_trans hfit.2 C.hce.2⟩) hS (fun q _ h => hFc q h) hFc (fun _ t H1 locs1 ht _ _ hB _ hk1 hS1 => ?_)
  obtain ⟨w1, hp1, hP1, -, hD1⟩ := hB
  rw [ht] at hP1
  obtain ⟨hP2, hD2⟩ := va_join (wr := wr) (w1 := w1) hP hD isC isR hC hRr hnR hdis hk1 hFc hP1 hD1
  exact kk w1 hp1 ls H1 locs1 hl hP2 hD2 hS1
theorem ri_callV (C : ra_CI Z cc nL own fr lo mc ms) {y : MethodName} {bytes : ByteArray} {maxL fr' lo' mc' ms' idx q ci : Nat} {wc wr : va_W} {fs : List Value} {Pw : va_W → Prop} {Cn : String} {T : u_T} {N : Nat} (hM : ra_MN (zl Z) (zG Z) y bytes maxL fr' lo' mc' ms' [.ref q] wc Pw) (hcl : vwCl[ci]? = some (Cn, T, N)) (hq : wc[0]? = some (q, .inr (ci, fs))) (hY : ra_YV y bytes maxL none 0 Cn) (hlk : Cond.methodLink own idx y ∈ TW) (hR : fr' + 1 ≤ fr ∧ 8 + (maxL + 11) + lo' ≤ lo) (isC isR : List Nat) (hC : isC.map (fun i => ws[i]?) = wc.map some) (hRr : isR.map (fun i => ws[i]?) = wr.map some) (hnC : va_nd isC = true) (hnR : va_nd isR = true) (hdis : ∀ i ∈ isR, i ∉ isC) (hfit : cs + mc' ≤ mc ∧ sl + ms' ≤ ms) (hst : (st.map fun v => v.category).sum ≤ 8) (hd : decode cc pc = .ok (.invokevirtual idx, 3)) (kk : ∀ w1, Pw w1 → ra_I Z nL (pc + 3) lv st (wr ++ w1) (cs + mc') (sl + ms')) : ra_I Z nL pc lv (.ref q :: st) ws cs sl := by
  intro ls H locs hl hP hD hS
  have hFc := va_free (wc := wc) hD hS C.hA isC hC
  refine va_callv (va_runV (As := []) (rest := st) (cc := cc) (nL := nL) (Ts := TW) ⟨C.hx, C.hb, C.hml, C.hown, C.hts⟩ (hM H.size) ⟨ra_callN C hY.1 hlk hR, C.hts _ hY.2.1, C.hts _ hY.2.2⟩ ⟨ra_blindN _ _ _ _, va_recv C.hK (ra_subP hP hC) hcl hq, fun U hU hW => ⟨rfl, by rw [hU], by rw [hU]; exact ra_subP hP hC, va_K.moved hW.alike C.hK, (hD.sub isC hnC hC).weaken (fun _ _ _ _ => trivial), va_AO.moved hW.alike C.hao⟩⟩ rfl rfl hl.1 rfl (lv_room hst) hd ⟨Nat.le_trans hfit.1 C.hce.1, Nat.le_trans hfit.2 C.hce.2⟩) hS (fun q _ h => hFc q h) hFc (fun _ t H1 locs1 ht _ _ hB _ hk1 hS1 => ?_)
  obtain ⟨w1, hp1, hP1, -, hD1⟩ := hB
  rw [ht] at hP1
  obtain ⟨hP2, hD2⟩ := va_join (wr := wr) (w1 := w1) hP hD isC isR hC hRr hnR hdis hk1 hFc hP1 hD1
  exact kk w1 hp1 ls H1 locs1 hl hP2 hD2 hS1
end RI
theorem ra_entryN {l : Launch} {G : ra_G} {y : MethodName} {cc : ByteArray} {nL : Nat} {fr lo mc ms : Nat} {av : List Value} {wc : va_W} {Pw : va_W → Prop} {own : String} (hp : plainName y.cls = true) (hown : y.cls = own) (hlen : (lg_sl av).length ≤ nL)
    (h : ∀ Z : ra_Z, zl Z = l → zG Z = G → ra_CI Z cc nL own fr lo mc ms → ra_QN Z Pw mc ms → (zmt Z).sig.returnType = none → (zmt Z).name = y.name → ra_I Z nL 0 (lv_args 0 av) [] wc 0 0) : ra_MN l G y cc nL fr lo mc ms av wc Pw := by
  intro sz
  refine Met.ofW (cc := cc) (maxL := nL) (ret := none) hp rfl ?_
  intro p e s m args below meth c s₁ B hml hv
  obtain ⟨rfl, hsz, hP, hK, hD0, hAO⟩ := hv
  have hts := atoms_spec (ws := .code y cc nL none :: TW) B.pre
  have ho : s.vm.findClass own = some m.cls := hown ▸ findClass_of_methodNamed B.named
  have hl := lv_entry av (n := nL) hlen
  have hin : meth.name = y.name := (name_of_methodNamed B.named B.method).1
  subst hsz
  rw [lg_entry_eq]
  generalize (lg_sl av ++ List.replicate (nL - (lg_sl av).length) Slot.unset).toArray = ls at hl ⊢
  exact h (p, l, e, { frames := fr, cells := mc, slots := ms, locals := lo }, s, m, av.toArray, below, meth, c, MQ below (va_Qv (fun (_ : Unit) => True) (fun _ t => ∃ w1 : va_W, Pw w1 ∧ va_P G.2.1 vwCl w1 t.heap ∧ va_K G.2.1 vwCl (ra_tys G) t ∧ va_D (va_A wc s.heap.size) w1) (va_A wc s.heap.size)) av.toArray s mc ms (va_A wc s.heap.size), G, va_A wc s.heap.size, 0, 0) rfl rfl ⟨⟨B.exec, B.bytes, hml, ho⟩, fun w hw => hts w (List.mem_cons_of_mem _ hw), hK, fun q hq => Or.inr hq, ⟨Nat.le_refl _, Nat.le_refl _⟩, ⟨Nat.le_refl _, Nat.le_refl _⟩, B.notSynchronized, hAO⟩ rfl B.returns hin ls s.heap [] hl hP hD0.self va_S.rf
