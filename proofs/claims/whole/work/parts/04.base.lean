/-! the flat world: 149 cells; cell k holds the numbers w k; objects of one class lie in fixed places -/
abbrev ra_W : Type := Nat → Nat → Int32
abbrev ra_G : Type := (Nat → Nat) × va_G × ClassId × ClassId × ClassId
def ra_kl : List (Nat × Nat) := [(5, 0), (3, 0), (10, 80), (2, 0), (10, 2), (10, 7), (10, 7), (10, 7), (2, 0), (10, 2), (10, 7), (10, 7), (10, 7), (0, 0), (10, 7), (10, 7), (4, 0), (10, 7), (10, 7), (10, 7), (10, 7), (10, 7), (10, 2), (4, 0), (10, 7), (10, 7), (10, 7), (10, 7), (10, 7), (10, 2), (1, 0), (12, 12), (12, 2), (10, 6), (10, 6), (10, 4), (4, 0), (10, 7), (10, 7), (10, 7), (10, 7), (10, 7), (10, 2), (4, 0), (10, 7), (10, 7), (10, 7), (10, 7), (10, 7), (10, 2), (4, 0), (10, 7), (10, 7), (10, 7), (10, 7), (10, 7), (10, 2), (4, 0), (10, 7), (10, 7), (10, 7), (10, 7), (10, 7), (10, 2), (4, 0), (10, 7), (10, 7), (10, 7), (10, 7), (10, 7), (10, 2), (4, 0), (10, 7), (10, 7), (10, 7), (10, 7), (10, 7), (10, 2), (4, 0), (10, 7), (10, 7), (10, 7), (10, 7), (10, 7), (10, 2), (4, 0), (10, 7), (10, 7), (10, 7), (10, 7), (10, 7), (10, 2), (4, 0), (10, 7), (10, 7), (10, 7), (10, 7), (10, 7), (10, 2), (4, 0), (10, 7), (10, 7), (10, 7), (10, 7), (10, 7), (10, 2), (4, 0), (10, 7), (10, 7), (10, 7), (10, 7), (10, 7), (10, 2), (4, 0), (10, 7), (10, 7), (10, 7), (10, 7), (10, 7), (10, 2), (4, 0), (10, 7), (10, 7), (10, 7), (10, 7), (10, 7), (10, 2), (4, 0), (10, 7), (10, 7), (10, 7), (10, 7), (10, 7), (10, 2), (6, 0), (10, 80), (10, 19), (10, 19), (10, 41), (10, 41), (10, 41), (10, 492), (10, 82), (11, 2), (10, 6), (10, 6), (10, 7), (10, 7), (10, 21)]
def ra_kd (k : Nat) : Nat × Nat := ra_kl.getD k (99, 0)
def ra_fs (ad : Nat → Nat) (ci k : Nat) (c : Nat → Int32) : List Value := match ci with
  | 0 => [.ref (ad (k + 1)), .ref (ad (k + 2))]
  | 1 => [.int (c 0), .ref (ad (k + 1)), .int (c 2)]
  | 2 => [.int (c 0), .int (c 1), .int (c 2), .ref (ad (k + 1)), .ref (ad (k + 2)), .ref (ad (k + 3)), .ref (ad (k + 4))]
  | 3 => [.int (c 0), .ref (ad (k + 1)), .int (c 2), .int (c 3), .int (c 4), .int (c 5), .int (c 6), .int (c 7), .int (c 8)]
  | 4 => [.ref (ad (k + 1)), .ref (ad (k + 2)), .ref (ad (k + 3)), .ref (ad (k + 4)), .ref (ad (k + 5)), .ref (ad (k + 6)), .int (c 6), .int (c 7), .int (c 8), .int (c 9)]
  | 5 => [.ref (ad 1), .ref (ad 3), .ref (ad 8), .ref (ad 13), .ref (ad 16), .ref (ad 23), .ref (ad 30), .ref (ad 32), .int (c 8), .ref (ad 33), .ref (ad 34), .int (c 11), .ref (ad 35)]
  | 6 => [.int (c 0), .ref (ad 135), .int (c 2), .int (c 3), .int (c 4), .int (c 5), .int (c 6), .int (c 7), .int (c 8), .ref (ad 136), .ref (ad 137), .ref (ad 138), .ref (ad 139), .ref (ad 140), .ref (ad 141), .int (c 15), .ref (ad 142), .ref (ad 143), .ref (ad 144), .ref (ad 145), .int (c 20), .ref (ad 146), .int (c 22), .ref (ad 147), .ref (ad 148)]
  | _ => []
def ra_rs (k j : Nat) : Nat := if k = 31 then 50 + 7 * j else 36 + 7 * j
def ra_E (G : ra_G) (k : Nat) (c : Nat → Int32) : va_E :=
  if (ra_kd k).1 = 10 then .inl (G.2.2.1, (ra_kd k).2, .inl c)
  else if (ra_kd k).1 = 11 then .inl (G.2.2.2.1, (ra_kd k).2, .inl c)
  else if (ra_kd k).1 = 12 then .inl (G.2.2.2.2, (ra_kd k).2, .inr (.inr (.inr (.inr (fun j => some (G.1 (ra_rs k j)))))))
  else .inr ((ra_kd k).1, ra_fs G.1 (ra_kd k).1 k c)
def ra_L (G : ra_G) (w : ra_W) : va_W := (List.range 149).map (fun k => (G.1 k, ra_E G k (w k)))
def ra_up (w : ra_W) (k : Nat) (c : Nat → Int32) : ra_W := fun j => if j = k then c else w j
def ra_st (w : ra_W) (k i : Nat) (x : Int32) : ra_W := ra_up w k (upd (w k) i x)
theorem ra_kl_len : ra_kl.length = 149 := by decide +kernel
theorem ra_kd_lt {k : Nat} (h : (ra_kd k).1 ≠ 99) : k < 149 := by
  rcases Nat.lt_or_ge k 149 with q | q
  · exact q
  · exfalso
    apply h
    unfold ra_kd
    rw [List.getD_eq_getElem?_getD, List.getElem?_eq_none (by rw [ra_kl_len]; exact q)]
    rfl
theorem ra_L_get (G : ra_G) (w : ra_W) {k : Nat} (h : k < 149) : (ra_L G w)[k]? = some (G.1 k, ra_E G k (w k)) := by
  simp [ra_L, h]
theorem ra_L_len (G : ra_G) (w : ra_W) : (ra_L G w).length = 149 := by simp [ra_L]
theorem ra_L_some {G : ra_G} {w : ra_W} {k : Nat} {q : Nat × va_E} (h : (ra_L G w)[k]? = some q) : k < 149 ∧ q.1 = G.1 k := by
  have hk : k < 149 := by rw [← ra_L_len G w]; exact (List.getElem?_eq_some_iff.mp h).1
  rw [ra_L_get G w hk] at h
  cases h
  exact ⟨hk, rfl⟩
theorem ra_L_set (G : ra_G) (w : ra_W) {k : Nat} (h : k < 149) (c : Nat → Int32) : (ra_L G w).set k (G.1 k, ra_E G k c) = ra_L G (ra_up w k c) := by
  apply List.ext_getElem?
  intro i
  rw [List.getElem?_set]
  by_cases hk : k = i
  · subst hk
    rw [if_pos rfl, if_pos (by rw [ra_L_len]; exact h), ra_L_get _ _ h]
    simp [ra_up]
  · rw [if_neg hk]
    by_cases hi : i < 149
    · rw [ra_L_get _ _ hi, ra_L_get _ _ hi]
      simp [ra_up, Ne.symm hk]
    · rw [List.getElem?_eq_none (by rw [ra_L_len]; omega), List.getElem?_eq_none (by rw [ra_L_len]; omega)]
theorem ra_EA {G : ra_G} {k n : Nat} (h : ra_kd k = (10, n)) (c : Nat → Int32) : ra_E G k c = .inl (G.2.2.1, n, .inl c) := by
  rw [ra_E, h]; rfl
theorem ra_EZ {G : ra_G} {k n : Nat} (h : ra_kd k = (11, n)) (c : Nat → Int32) : ra_E G k c = .inl (G.2.2.2.1, n, .inl c) := by
  rw [ra_E, h]; rfl
theorem ra_ES {G : ra_G} {k n : Nat} (h : ra_kd k = (12, n)) (c : Nat → Int32) : ra_E G k c = .inl (G.2.2.2.2, n, .inr (.inr (.inr (.inr (fun j => some (G.1 (ra_rs k j))))))) := by
  rw [ra_E, h]; rfl
theorem ra_EO {G : ra_G} {k ci : Nat} (h : ra_kd k = (ci, 0)) (hc : ci < 7) (c : Nat → Int32) : ra_E G k c = .inr (ci, ra_fs G.1 ci k c) := by
  rw [ra_E, h, if_neg (by show ¬ ci = 10; omega), if_neg (by show ¬ ci = 11; omega), if_neg (by show ¬ ci = 12; omega)]
theorem ra_lt {k a b : Nat} (h : ra_kd k = (a, b)) (ha : a ≠ 99) : k < 149 := ra_kd_lt (by rw [h]; exact ha)
theorem ra_getA (G : ra_G) (w : ra_W) {k n : Nat} (h : ra_kd k = (10, n)) : (ra_L G w)[k]? = some (G.1 k, .inl (G.2.2.1, n, .inl (w k))) := by
  rw [ra_L_get G w (ra_lt h (by decide)), ra_EA h]
theorem ra_getZ (G : ra_G) (w : ra_W) {k n : Nat} (h : ra_kd k = (11, n)) : (ra_L G w)[k]? = some (G.1 k, .inl (G.2.2.2.1, n, .inl (w k))) := by
  rw [ra_L_get G w (ra_lt h (by decide)), ra_EZ h]
theorem ra_getS (G : ra_G) (w : ra_W) {k n : Nat} (h : ra_kd k = (12, n)) : (ra_L G w)[k]? = some (G.1 k, .inl (G.2.2.2.2, n, .inr (.inr (.inr (.inr (fun j => some (G.1 (ra_rs k j)))))))) := by
  rw [ra_L_get G w (ra_lt h (by decide)), ra_ES h]
theorem ra_getO (G : ra_G) (w : ra_W) {k ci : Nat} (h : ra_kd k = (ci, 0)) (hc : ci < 7) : (ra_L G w)[k]? = some (G.1 k, .inr (ci, ra_fs G.1 ci k (w k))) := by
  rw [ra_L_get G w (ra_lt h (by omega)), ra_EO h hc]
theorem ra_setA (G : ra_G) (w : ra_W) {k n : Nat} (h : ra_kd k = (10, n)) (c : Nat → Int32) : (ra_L G w).set k (G.1 k, .inl (G.2.2.1, n, .inl c)) = ra_L G (ra_up w k c) := by
  rw [← ra_L_set G w (ra_lt h (by decide)), ra_EA h]
theorem ra_setZ (G : ra_G) (w : ra_W) {k n : Nat} (h : ra_kd k = (11, n)) (c : Nat → Int32) : (ra_L G w).set k (G.1 k, .inl (G.2.2.2.1, n, .inl c)) = ra_L G (ra_up w k c) := by
  rw [← ra_L_set G w (ra_lt h (by decide)), ra_EZ h]
theorem ra_setO (G : ra_G) (w : ra_W) {k ci : Nat} (h : ra_kd k = (ci, 0)) (hc : ci < 7) (c : Nat → Int32) : (ra_L G w).set k (G.1 k, .inr (ci, ra_fs G.1 ci k c)) = ra_L G (ra_up w k c) := by
  rw [← ra_L_set G w (ra_lt h (by omega)), ra_EO h hc]
def ra_tys (G : ra_G) : List (ClassId × FieldType) := [(G.2.2.1, .int), (G.2.2.2.1, .boolean), (G.2.2.2.2, .object "TrunkRadio$State")]
def ra_inj (G : ra_G) : Prop := ∀ i j : Nat, i < 149 → j < 149 → G.1 i = G.1 j → i = j
def ra_A (G : ra_G) : Nat → Prop := fun q => ∃ k : Nat, k < 149 ∧ q = G.1 k
theorem ra_D {G : ra_G} {A : Nat → Prop} (hj : ra_inj G) (hA : ∀ k, k < 149 → A (G.1 k)) (w : ra_W) : va_D A (ra_L G w) := by
  refine ⟨fun i j p q hi hq e => ?_, fun k q hk => ?_⟩
  · obtain ⟨a1, a2⟩ := ra_L_some hi
    obtain ⟨b1, b2⟩ := ra_L_some hq
    exact hj i j a1 b1 (by rw [← a2, ← b2, e])
  · obtain ⟨a1, a2⟩ := ra_L_some hk
    rw [a2]
    exact hA k a1
abbrev ra_Z := Program × Launch × Env × Room × State × MethodId × Array Value × List Frame × Method × Code × (State → Prop) × ra_G × (Nat → Prop) × Nat × Nat
abbrev zp (Z : ra_Z) := Z.1
abbrev zl (Z : ra_Z) := Z.2.1
abbrev ze (Z : ra_Z) := Z.2.2.1
abbrev zR (Z : ra_Z) := Z.2.2.2.1
abbrev zs (Z : ra_Z) := Z.2.2.2.2.1
abbrev zm (Z : ra_Z) := Z.2.2.2.2.2.1
abbrev zar (Z : ra_Z) := Z.2.2.2.2.2.2.1
abbrev zbl (Z : ra_Z) := Z.2.2.2.2.2.2.2.1
abbrev zmt (Z : ra_Z) := Z.2.2.2.2.2.2.2.2.1
abbrev zc (Z : ra_Z) := Z.2.2.2.2.2.2.2.2.2.1
abbrev zQ (Z : ra_Z) := Z.2.2.2.2.2.2.2.2.2.2.1
abbrev zG (Z : ra_Z) := Z.2.2.2.2.2.2.2.2.2.2.2.1
abbrev zA (Z : ra_Z) := Z.2.2.2.2.2.2.2.2.2.2.2.2.1
abbrev zcl (Z : ra_Z) := Z.2.2.2.2.2.2.2.2.2.2.2.2.2.1
abbrev zsl (Z : ra_Z) := Z.2.2.2.2.2.2.2.2.2.2.2.2.2.2
def ra_J (Z : ra_Z) (nL pc : Nat) (lv : List (Nat × Value)) (st : List Value) (w : ra_W) : Prop :=
  ∀ (ls : Array Slot) (H : Heap) (locs : List Loc), lv_has ls nL lv → va_P (zG Z).2.1 vwCl (ra_L (zG Z) w) H → va_S (zA Z) (zs Z).heap H locs →
    W (zp Z) (zl Z) (ze Z) (zR Z) (zs Z) (zm Z) (zar Z) (zbl Z) (zmt Z) (zc Z) H locs (zcl Z) (zsl Z) (zQ Z) (F0 (zm Z) pc ls st)
def ra_C (Z : ra_Z) (cc : ByteArray) (nL : Nat) (own : String) (fr lo : Nat) : Prop :=
  ((zp Z).tables.exec = Jvm.exec ∧ (zc Z).code = cc ∧ (zc Z).maxLocals = nL ∧ (zs Z).vm.findClass own = some (zm Z).cls) ∧ (∀ w ∈ TW, w.before (zar Z) (zs Z) = true) ∧ va_K (zG Z).2.1 vwCl (ra_tys (zG Z)) (zs Z) ∧ ra_inj (zG Z) ∧ (∀ k, k < 149 → zA Z ((zG Z).1 k)) ∧ (zcl Z ≤ (zR Z).cells ∧ zsl Z ≤ (zR Z).slots) ∧ (fr ≤ (zR Z).frames ∧ lo ≤ (zR Z).locals) ∧ (zmt Z).locks = false
def ra_K (G : ra_G) (w : ra_W) (t : State) : Prop := va_P G.2.1 vwCl (ra_L G w) t.heap ∧ va_K G.2.1 vwCl (ra_tys G) t
def ra_QI (Z : ra_Z) (r : Int32) (w1 : ra_W) : Prop := zQ Z = MQ (zbl Z) (va_Qi (fun (r' : Int32) (_ : Unit) => r' = r) (fun _ t => ra_K (zG Z) w1 t) (zA Z)) (zar Z) (zs Z) (zcl Z) (zsl Z) (zA Z)
def ra_QV (Z : ra_Z) (_ : Int32) (w1 : ra_W) : Prop := zQ Z = MQ (zbl Z) (va_Qv (fun (_ : Unit) => True) (fun _ t => ra_K (zG Z) w1 t) (zA Z)) (zar Z) (zs Z) (zcl Z) (zsl Z) (zA Z)
abbrev ra_rm (fr lo : Nat) : Room := { frames := fr, cells := 0, slots := 0, locals := lo }
def ra_MI (l : Launch) (G : ra_G) (y : MethodName) (cc : ByteArray) (nL : Nat) (ret : Option FieldType) (fr lo : Nat) (av : List Value) (w : ra_W) (r : Int32) (w1 : ra_W) : Prop :=
  Met l y (.code y cc nL ret :: TW) (ra_rm fr lo) (va_Pc av (fun U => ra_K G w U)) (va_Qi (fun (r' : Int32) (_ : Unit) => r' = r) (fun _ t => ra_K G w1 t) (ra_A G)) 0 0 (ra_A G)
def ra_MV (l : Launch) (G : ra_G) (y : MethodName) (cc : ByteArray) (nL : Nat) (ret : Option FieldType) (fr lo : Nat) (av : List Value) (w : ra_W) (_ : Int32) (w1 : ra_W) : Prop :=
  Met l y (.code y cc nL ret :: TW) (ra_rm fr lo) (va_Pc av (fun U => ra_K G w U)) (va_Qv (fun (_ : Unit) => True) (fun _ t => ra_K G w1 t) (ra_A G)) 0 0 (ra_A G)
theorem ra_good {y : MethodName} {cc : ByteArray} {nL : Nat} {ret : Option FieldType} (h : Cond.code y cc nL ret ∈ TW) : GoodIn TW (.code y cc nL ret :: TW) := by
  intro w hw
  have hm : w ∈ TW := (List.mem_cons.mp hw).elim (fun e => e ▸ h) id
  exact ⟨hm, good_of_word (TW_good w hm)⟩
def ra_Y (y : MethodName) (cc : ByteArray) (nL : Nat) (ret : Option FieldType) (n : Nat) : Prop := Cond.initialized y.cls ∈ TW ∧ Cond.code y cc nL ret ∈ TW ∧ y.cls ≠ "java/lang/invoke/MethodHandle" ∧ y.cls ≠ "java/lang/invoke/VarHandle" ∧ (parseMethodDescriptor y.desc).map (fun d => d.parameters.length) = some n
def ra_YV (y : MethodName) (cc : ByteArray) (nL : Nat) (ret : Option FieldType) (n : Nat) (Cn : String) : Prop := ra_Y y cc nL ret n ∧ Cond.instanceMethod y ∈ TW ∧ Cond.selects Cn y y ∈ TW
def ra_YS (y : MethodName) (cc : ByteArray) (nL : Nat) (ret : Option FieldType) (n : Nat) : Prop := ra_Y y cc nL ret n ∧ Cond.static y ∈ TW
abbrev ra_in (i : Int32) (n : Nat) : Prop := ¬ (i < 0 ∨ n ≤ i.toNatClampNeg)
abbrev ra_ix (i : Int32) : Nat := i.toNatClampNeg
def ra_bind (o : Option (Int32 × ra_W)) (F : Int32 → ra_W → Option (Int32 × ra_W)) : Option (Int32 × ra_W) := match o with
  | none => none
  | some (r, w) => F r w
theorem ra_bd {o : Option (Int32 × ra_W)} {F : Int32 → ra_W → Option (Int32 × ra_W)} {y : Int32 × ra_W} (h : ra_bind o F = some y) : ∃ (r : Int32) (w : ra_W), o = some (r, w) ∧ F r w = some y := by
  cases o with
  | none => cases h
  | some q => exact ⟨q.1, q.2, rfl, h⟩
theorem ra_t {c : Prop} [Decidable c] {α : Type} {x y z : α} (h : (if c then x else y) = z) (hc : c) : x = z := by rw [if_pos hc] at h; exact h
theorem ra_f {c : Prop} [Decidable c] {α : Type} {x y z : α} (h : (if c then x else y) = z) (hc : ¬ c) : y = z := by rw [if_neg hc] at h; exact h
theorem ra_gd {c : Prop} [Decidable c] {α : Type} {x : Option α} {z : α} (h : (if c then x else none) = some z) : c ∧ x = some z := by
  by_cases hc : c
  · rw [if_pos hc] at h; exact ⟨hc, h⟩
  · rw [if_neg hc] at h; cases h
theorem ra_ii {a b c : Int32} (h : b = c) : a + b = a + c := by rw [h]
section RG
variable {Z : ra_Z} {cc : ByteArray} {nL : Nat} {own : String} {fr lo : Nat} {pc : Nat} {lv : List (Nat × Value)} {st : List Value} {w : ra_W}
theorem ra_C.hx (C : ra_C Z cc nL own fr lo) : (zp Z).tables.exec = Jvm.exec := C.1.1
theorem ra_C.hb (C : ra_C Z cc nL own fr lo) : (zc Z).code = cc := C.1.2.1
theorem ra_C.hml (C : ra_C Z cc nL own fr lo) : (zc Z).maxLocals = nL := C.1.2.2.1
theorem ra_C.hown (C : ra_C Z cc nL own fr lo) : (zs Z).vm.findClass own = some (zm Z).cls := C.1.2.2.2
theorem ra_C.hts (C : ra_C Z cc nL own fr lo) : ∀ w ∈ TW, w.before (zar Z) (zs Z) = true := C.2.1
theorem ra_C.hK (C : ra_C Z cc nL own fr lo) : va_K (zG Z).2.1 vwCl (ra_tys (zG Z)) (zs Z) := C.2.2.1
theorem ra_C.hj (C : ra_C Z cc nL own fr lo) : ra_inj (zG Z) := C.2.2.2.1
theorem ra_C.hA (C : ra_C Z cc nL own fr lo) : ∀ k, k < 149 → zA Z ((zG Z).1 k) := C.2.2.2.2.1
theorem ra_C.hce (C : ra_C Z cc nL own fr lo) : zcl Z ≤ (zR Z).cells ∧ zsl Z ≤ (zR Z).slots := C.2.2.2.2.2.1
theorem ra_C.hro (C : ra_C Z cc nL own fr lo) : fr ≤ (zR Z).frames ∧ lo ≤ (zR Z).locals := C.2.2.2.2.2.2.1
theorem ra_C.hlk (C : ra_C Z cc nL own fr lo) : (zmt Z).locks = false := C.2.2.2.2.2.2.2
theorem ra_C.hD (C : ra_C Z cc nL own fr lo) (w : ra_W) : va_D (zA Z) (ra_L (zG Z) w) := ra_D C.hj C.hA w
theorem rg_sub (ks : List Nat) {lv' : List (Nat × Value)} (h : lv_pick lv ks = lv') (k : ra_J Z nL pc lv' st w) : ra_J Z nL pc lv st w := fun ls H locs hl hP hS => k ls H locs (lv_sub hl ks h) hP hS
theorem rg_iconst (C : ra_C Z cc nL own fr lo) {n : Int} {v : Int32} (hd : decode cc pc = .ok (.iconst n, 1)) (hv : Int32.ofInt n = v) (k : ra_J Z nL (pc + 1) lv (.int v :: st) w) : ra_J Z nL pc lv st w := fun ls H locs hl hP hS => lv_iconst C.hx C.hb hd hv (k ls H locs hl hP hS)
theorem rg_bipush (C : ra_C Z cc nL own fr lo) {n : Int} {v : Int32} (hd : decode cc pc = .ok (.bipush n, 2)) (hv : (Int8.ofInt n).toInt32 = v) (k : ra_J Z nL (pc + 2) lv (.int v :: st) w) : ra_J Z nL pc lv st w := fun ls H locs hl hP hS => lv_bipush C.hx C.hb hd hv (k ls H locs hl hP hS)
theorem rg_sipush (C : ra_C Z cc nL own fr lo) {n : Int} {v : Int32} (hd : decode cc pc = .ok (.sipush n, 3)) (hv : (Int16.ofInt n).toInt32 = v) (k : ra_J Z nL (pc + 3) lv (.int v :: st) w) : ra_J Z nL pc lv st w := fun ls H locs hl hP hS => lv_sipush C.hx C.hb hd hv (k ls H locs hl hP hS)
theorem rg_iload_n (C : ra_C Z cc nL own fr lo) {k : Fin 4} {i : Nat} {x : Int32} (j : Nat) (hj : lv[j]? = some (i, .int x)) (hi : (k : Nat) = i) (hd : decode cc pc = .ok (.iload_n k, 1)) (kk : ra_J Z nL (pc + 1) lv (.int x :: st) w) : ra_J Z nL pc lv st w := fun ls H locs hl hP hS => lv_iload_n C.hx C.hb hd hi (lv_at hl j hj) (kk ls H locs hl hP hS)
theorem rg_iload (C : ra_C Z cc nL own fr lo) {i : Nat} {x : Int32} (j : Nat) (hj : lv[j]? = some (i, .int x)) (hd : decode cc pc = .ok (.iload i, 2)) (kk : ra_J Z nL (pc + 2) lv (.int x :: st) w) : ra_J Z nL pc lv st w := fun ls H locs hl hP hS => lv_iload C.hx C.hb hd (lv_at hl j hj) (kk ls H locs hl hP hS)
theorem rg_aload_n (C : ra_C Z cc nL own fr lo) {k : Fin 4} {i : Nat} {x : Nat} (j : Nat) (hj : lv[j]? = some (i, .ref x)) (hi : (k : Nat) = i) (hd : decode cc pc = .ok (.aload_n k, 1)) (kk : ra_J Z nL (pc + 1) lv (.ref x :: st) w) : ra_J Z nL pc lv st w := fun ls H locs hl hP hS => lv_aload_n C.hx C.hb hd hi (lv_at hl j hj) (kk ls H locs hl hP hS)
theorem rg_istore_n (C : ra_C Z cc nL own fr lo) {k : Fin 4} {i : Nat} {x : Int32} {lv' : List (Nat × Value)} (ks : List Nat) (hl' : lv_pick ((i, Value.int x) :: lv.filter (fun q => !(q.1 == i) && !(q.1 + 1 == i && q.2.category == 2))) ks = lv') (hi : (k : Nat) = i) (hn : i < nL) (hd : decode cc pc = .ok (.istore_n k, 1)) (kk : ra_J Z nL (pc + 1) lv' st w) : ra_J Z nL pc lv (.int x :: st) w := fun _ H locs hl hP hS => lv_istore_n C.hx C.hb hd hi hl hn rfl (fun ls' h' => kk ls' H locs (lv_sub h' ks hl') hP hS)
theorem rg_istore (C : ra_C Z cc nL own fr lo) {i : Nat} {x : Int32} {lv' : List (Nat × Value)} (ks : List Nat) (hl' : lv_pick ((i, Value.int x) :: lv.filter (fun q => !(q.1 == i) && !(q.1 + 1 == i && q.2.category == 2))) ks = lv') (hn : i < nL) (hd : decode cc pc = .ok (.istore i, 2)) (kk : ra_J Z nL (pc + 2) lv' st w) : ra_J Z nL pc lv (.int x :: st) w := fun _ H locs hl hP hS => lv_istore C.hx C.hb hd hl hn rfl (fun ls' h' => kk ls' H locs (lv_sub h' ks hl') hP hS)
theorem rg_iinc (C : ra_C Z cc nL own fr lo) {i : Nat} {n : Int} {x v : Int32} {lv' : List (Nat × Value)} (j : Nat) (hj : lv[j]? = some (i, .int x)) (ks : List Nat) (hv : x + Int32.ofInt n = v) (hl' : lv_pick ((i, Value.int v) :: lv.filter (fun q => !(q.1 == i) && !(q.1 + 1 == i && q.2.category == 2))) ks = lv') (hn : i < nL) (hd : decode cc pc = .ok (.iinc i n, 3)) (kk : ra_J Z nL (pc + 3) lv' st w) : ra_J Z nL pc lv st w := fun _ H locs hl hP hS => lv_iinc C.hx C.hb hd hl hj hv hn rfl (fun ls' h' => kk ls' H locs (lv_sub h' ks hl') hP hS)
theorem rg_iadd (C : ra_C Z cc nL own fr lo) {x y : Int32} (hd : decode cc pc = .ok (.iadd, 1)) (k : ra_J Z nL (pc + 1) lv (.int (x + y) :: st) w) : ra_J Z nL pc lv (.int y :: .int x :: st) w := fun ls H locs hl hP hS => lv_iadd C.hx C.hb hd (k ls H locs hl hP hS)
theorem rg_isub (C : ra_C Z cc nL own fr lo) {x y : Int32} (hd : decode cc pc = .ok (.isub, 1)) (k : ra_J Z nL (pc + 1) lv (.int (x - y) :: st) w) : ra_J Z nL pc lv (.int y :: .int x :: st) w := fun ls H locs hl hP hS => lv_isub C.hx C.hb hd (k ls H locs hl hP hS)
theorem rg_imul (C : ra_C Z cc nL own fr lo) {x y : Int32} (hd : decode cc pc = .ok (.imul, 1)) (k : ra_J Z nL (pc + 1) lv (.int (x * y) :: st) w) : ra_J Z nL pc lv (.int y :: .int x :: st) w := fun ls H locs hl hP hS => lv_imul C.hx C.hb hd (k ls H locs hl hP hS)
theorem rg_iand (C : ra_C Z cc nL own fr lo) {x y : Int32} (hd : decode cc pc = .ok (.iand, 1)) (k : ra_J Z nL (pc + 1) lv (.int (x &&& y) :: st) w) : ra_J Z nL pc lv (.int y :: .int x :: st) w := fun ls H locs hl hP hS => lv_iand C.hx C.hb hd (k ls H locs hl hP hS)
theorem rg_ior (C : ra_C Z cc nL own fr lo) {x y : Int32} (hd : decode cc pc = .ok (.ior, 1)) (k : ra_J Z nL (pc + 1) lv (.int (x ||| y) :: st) w) : ra_J Z nL pc lv (.int y :: .int x :: st) w := fun ls H locs hl hP hS => lv_ior C.hx C.hb hd (k ls H locs hl hP hS)
theorem rg_ixor (C : ra_C Z cc nL own fr lo) {x y : Int32} (hd : decode cc pc = .ok (.ixor, 1)) (k : ra_J Z nL (pc + 1) lv (.int (x ^^^ y) :: st) w) : ra_J Z nL pc lv (.int y :: .int x :: st) w := fun ls H locs hl hP hS => lv_ixor C.hx C.hb hd (k ls H locs hl hP hS)
theorem rg_ishl (C : ra_C Z cc nL own fr lo) {x y : Int32} (hd : decode cc pc = .ok (.ishl, 1)) (k : ra_J Z nL (pc + 1) lv (.int (x <<< (y &&& 31)) :: st) w) : ra_J Z nL pc lv (.int y :: .int x :: st) w := fun ls H locs hl hP hS => lv_ishl C.hx C.hb hd (k ls H locs hl hP hS)
theorem rg_ishr (C : ra_C Z cc nL own fr lo) {x y : Int32} (hd : decode cc pc = .ok (.ishr, 1)) (k : ra_J Z nL (pc + 1) lv (.int (x >>> (y &&& 31)) :: st) w) : ra_J Z nL pc lv (.int y :: .int x :: st) w := fun ls H locs hl hP hS => lv_ishr C.hx C.hb hd (k ls H locs hl hP hS)
theorem rg_idiv (C : ra_C Z cc nL own fr lo) {x y : Int32} (hne : ¬ y = 0) (hd : decode cc pc = .ok (.idiv, 1)) (k : ra_J Z nL (pc + 1) lv (.int (x / y) :: st) w) : ra_J Z nL pc lv (.int y :: .int x :: st) w := fun ls H locs hl hP hS => lv_idiv C.hx C.hb hd hne (k ls H locs hl hP hS)
theorem rg_irem (C : ra_C Z cc nL own fr lo) {x y : Int32} (hne : ¬ y = 0) (hd : decode cc pc = .ok (.irem, 1)) (k : ra_J Z nL (pc + 1) lv (.int (x - x / y * y) :: st) w) : ra_J Z nL pc lv (.int y :: .int x :: st) w := fun ls H locs hl hP hS => lv_irem C.hx C.hb hd hne (k ls H locs hl hP hS)
theorem rg_iushr (C : ra_C Z cc nL own fr lo) {x y : Int32} (hd : decode cc pc = .ok (.iushr, 1)) (k : ra_J Z nL (pc + 1) lv (.int ((x.toUInt32 >>> (y.toUInt32 &&& Int32.toUInt32 31)).toInt32) :: st) w) : ra_J Z nL pc lv (.int y :: .int x :: st) w := fun ls H locs hl hP hS => lv_iushr C.hx C.hb hd rfl (k ls H locs hl hP hS)
theorem rg_dup (C : ra_C Z cc nL own fr lo) {a : Value} (h : a.category = 1) (hd : decode cc pc = .ok (.dup, 1)) (k : ra_J Z nL (pc + 1) lv (a :: a :: st) w) : ra_J Z nL pc lv (a :: st) w := fun ls H locs hl hP hS => lv_dup C.hx C.hb hd h (k ls H locs hl hP hS)
theorem rg_pop (C : ra_C Z cc nL own fr lo) {a : Value} (h : a.category = 1) (hd : decode cc pc = .ok (.pop, 1)) (k : ra_J Z nL (pc + 1) lv st w) : ra_J Z nL pc lv (a :: st) w := fun ls H locs hl hP hS => lv_pop C.hx C.hb hd h (k ls H locs hl hP hS)
theorem rg_dup2 (C : ra_C Z cc nL own fr lo) {a b : Value} (h : a.category = 1) (h2 : b.category = 1) (hd : decode cc pc = .ok (.dup2, 1)) (k : ra_J Z nL (pc + 1) lv (a :: b :: a :: b :: st) w) : ra_J Z nL pc lv (a :: b :: st) w := fun ls H locs hl hP hS => lv_dup2_11 C.hx C.hb hd h h2 (k ls H locs hl hP hS)
theorem rg_if_eq (C : ra_C Z cc nL own fr lo) {x : Int32} {off : Int} {tgt : Nat} (hd : decode cc pc = .ok (.ifCond .eq off, 3)) (ht : (pc : Int) + off = (tgt : Int)) (kt : x = 0 → ra_J Z nL tgt lv st w) (kf : ¬ x = 0 → ra_J Z nL (pc + 3) lv st w) : ra_J Z nL pc lv (.int x :: st) w := fun ls H locs hl hP hS => lv_if_eq C.hx C.hb hd ht (fun h => kt h ls H locs hl hP hS) (fun h => kf h ls H locs hl hP hS)
theorem rg_icmp_eq (C : ra_C Z cc nL own fr lo) {x y : Int32} {off : Int} {tgt : Nat} (hd : decode cc pc = .ok (.if_icmp .eq off, 3)) (ht : (pc : Int) + off = (tgt : Int)) (kt : x = y → ra_J Z nL tgt lv st w) (kf : ¬ x = y → ra_J Z nL (pc + 3) lv st w) : ra_J Z nL pc lv (.int y :: .int x :: st) w := fun ls H locs hl hP hS => lv_icmp_eq C.hx C.hb hd ht (fun h => kt h ls H locs hl hP hS) (fun h => kf h ls H locs hl hP hS)
theorem rg_if_ne (C : ra_C Z cc nL own fr lo) {x : Int32} {off : Int} {tgt : Nat} (hd : decode cc pc = .ok (.ifCond .ne off, 3)) (ht : (pc : Int) + off = (tgt : Int)) (kt : ¬ x = 0 → ra_J Z nL tgt lv st w) (kf : x = 0 → ra_J Z nL (pc + 3) lv st w) : ra_J Z nL pc lv (.int x :: st) w := fun ls H locs hl hP hS => lv_if_ne C.hx C.hb hd ht (fun h => kt h ls H locs hl hP hS) (fun h => kf h ls H locs hl hP hS)
theorem rg_icmp_ne (C : ra_C Z cc nL own fr lo) {x y : Int32} {off : Int} {tgt : Nat} (hd : decode cc pc = .ok (.if_icmp .ne off, 3)) (ht : (pc : Int) + off = (tgt : Int)) (kt : ¬ x = y → ra_J Z nL tgt lv st w) (kf : x = y → ra_J Z nL (pc + 3) lv st w) : ra_J Z nL pc lv (.int y :: .int x :: st) w := fun ls H locs hl hP hS => lv_icmp_ne C.hx C.hb hd ht (fun h => kt h ls H locs hl hP hS) (fun h => kf h ls H locs hl hP hS)
theorem rg_if_lt (C : ra_C Z cc nL own fr lo) {x : Int32} {off : Int} {tgt : Nat} (hd : decode cc pc = .ok (.ifCond .lt off, 3)) (ht : (pc : Int) + off = (tgt : Int)) (kt : x < 0 → ra_J Z nL tgt lv st w) (kf : ¬ x < 0 → ra_J Z nL (pc + 3) lv st w) : ra_J Z nL pc lv (.int x :: st) w := fun ls H locs hl hP hS => lv_if_lt C.hx C.hb hd ht (fun h => kt h ls H locs hl hP hS) (fun h => kf h ls H locs hl hP hS)
theorem rg_icmp_lt (C : ra_C Z cc nL own fr lo) {x y : Int32} {off : Int} {tgt : Nat} (hd : decode cc pc = .ok (.if_icmp .lt off, 3)) (ht : (pc : Int) + off = (tgt : Int)) (kt : x < y → ra_J Z nL tgt lv st w) (kf : ¬ x < y → ra_J Z nL (pc + 3) lv st w) : ra_J Z nL pc lv (.int y :: .int x :: st) w := fun ls H locs hl hP hS => lv_icmp_lt C.hx C.hb hd ht (fun h => kt h ls H locs hl hP hS) (fun h => kf h ls H locs hl hP hS)
theorem rg_if_ge (C : ra_C Z cc nL own fr lo) {x : Int32} {off : Int} {tgt : Nat} (hd : decode cc pc = .ok (.ifCond .ge off, 3)) (ht : (pc : Int) + off = (tgt : Int)) (kt : 0 ≤ x → ra_J Z nL tgt lv st w) (kf : ¬ 0 ≤ x → ra_J Z nL (pc + 3) lv st w) : ra_J Z nL pc lv (.int x :: st) w := fun ls H locs hl hP hS => lv_if_ge C.hx C.hb hd ht (fun h => kt h ls H locs hl hP hS) (fun h => kf h ls H locs hl hP hS)
theorem rg_icmp_ge (C : ra_C Z cc nL own fr lo) {x y : Int32} {off : Int} {tgt : Nat} (hd : decode cc pc = .ok (.if_icmp .ge off, 3)) (ht : (pc : Int) + off = (tgt : Int)) (kt : y ≤ x → ra_J Z nL tgt lv st w) (kf : ¬ y ≤ x → ra_J Z nL (pc + 3) lv st w) : ra_J Z nL pc lv (.int y :: .int x :: st) w := fun ls H locs hl hP hS => lv_icmp_ge C.hx C.hb hd ht (fun h => kt h ls H locs hl hP hS) (fun h => kf h ls H locs hl hP hS)
theorem rg_if_gt (C : ra_C Z cc nL own fr lo) {x : Int32} {off : Int} {tgt : Nat} (hd : decode cc pc = .ok (.ifCond .gt off, 3)) (ht : (pc : Int) + off = (tgt : Int)) (kt : 0 < x → ra_J Z nL tgt lv st w) (kf : ¬ 0 < x → ra_J Z nL (pc + 3) lv st w) : ra_J Z nL pc lv (.int x :: st) w := fun ls H locs hl hP hS => lv_if_gt C.hx C.hb hd ht (fun h => kt h ls H locs hl hP hS) (fun h => kf h ls H locs hl hP hS)
theorem rg_icmp_gt (C : ra_C Z cc nL own fr lo) {x y : Int32} {off : Int} {tgt : Nat} (hd : decode cc pc = .ok (.if_icmp .gt off, 3)) (ht : (pc : Int) + off = (tgt : Int)) (kt : y < x → ra_J Z nL tgt lv st w) (kf : ¬ y < x → ra_J Z nL (pc + 3) lv st w) : ra_J Z nL pc lv (.int y :: .int x :: st) w := fun ls H locs hl hP hS => lv_icmp_gt C.hx C.hb hd ht (fun h => kt h ls H locs hl hP hS) (fun h => kf h ls H locs hl hP hS)
theorem rg_if_le (C : ra_C Z cc nL own fr lo) {x : Int32} {off : Int} {tgt : Nat} (hd : decode cc pc = .ok (.ifCond .le off, 3)) (ht : (pc : Int) + off = (tgt : Int)) (kt : x ≤ 0 → ra_J Z nL tgt lv st w) (kf : ¬ x ≤ 0 → ra_J Z nL (pc + 3) lv st w) : ra_J Z nL pc lv (.int x :: st) w := fun ls H locs hl hP hS => lv_if_le C.hx C.hb hd ht (fun h => kt h ls H locs hl hP hS) (fun h => kf h ls H locs hl hP hS)
theorem rg_icmp_le (C : ra_C Z cc nL own fr lo) {x y : Int32} {off : Int} {tgt : Nat} (hd : decode cc pc = .ok (.if_icmp .le off, 3)) (ht : (pc : Int) + off = (tgt : Int)) (kt : x ≤ y → ra_J Z nL tgt lv st w) (kf : ¬ x ≤ y → ra_J Z nL (pc + 3) lv st w) : ra_J Z nL pc lv (.int y :: .int x :: st) w := fun ls H locs hl hP hS => lv_icmp_le C.hx C.hb hd ht (fun h => kt h ls H locs hl hP hS) (fun h => kf h ls H locs hl hP hS)
theorem rg_goto (C : ra_C Z cc nL own fr lo) {off : Int} {tgt : Nat} (hd : decode cc pc = .ok (.goto off, 3)) (ht : (pc : Int) + off = (tgt : Int)) (k : ra_J Z nL tgt lv st w) : ra_J Z nL pc lv st w := fun ls H locs hl hP hS => lv_goto C.hx C.hb hd ht (k ls H locs hl hP hS)
theorem rg_tableOut (C : ra_C Z cc nL own fr lo) {dflt lw hi : Int} {offs : Array Int} {len : Nat} {x : Int32} {tgt : Nat} (hd : decode cc pc = .ok (.tableswitch dflt lw hi offs, len)) (h : x.toInt < lw ∨ hi < x.toInt) (ht : (pc : Int) + dflt = (tgt : Int)) (k : ra_J Z nL tgt lv st w) : ra_J Z nL pc lv (.int x :: st) w := fun ls H locs hl hP hS => lv_tableOut C.hx C.hb hd h ht (k ls H locs hl hP hS)
theorem rg_tableIn (C : ra_C Z cc nL own fr lo) {dflt lw hi : Int} {offs : Array Int} {len : Nat} {x : Int32} {off : Int} {tgt : Nat} (hd : decode cc pc = .ok (.tableswitch dflt lw hi offs, len)) (h1 : ¬ x.toInt < lw) (h2 : ¬ hi < x.toInt) (ho : offs[(x.toInt - lw).toNat]? = some off) (ht : (pc : Int) + off = (tgt : Int)) (k : ra_J Z nL tgt lv st w) : ra_J Z nL pc lv (.int x :: st) w := fun ls H locs hl hP hS => lv_tableIn C.hx C.hb hd h1 h2 ho ht (k ls H locs hl hP hS)
theorem rg_lookup (C : ra_C Z cc nL own fr lo) {dflt : Int} {ps : Array (Int × Int)} {len : Nat} {x : Int32} {off : Int} {tgt : Nat} (hd : decode cc pc = .ok (.lookupswitch dflt ps, len)) (hp : (ps.toList.zip (ps.toList.drop 1)).all (fun (a, next) => a.1 < next.1) = true) (ho : Op.lookupswitch.offset ps.toList dflt x.toInt = off) (ht : (pc : Int) + off = (tgt : Int)) (k : ra_J Z nL tgt lv st w) : ra_J Z nL pc lv (.int x :: st) w := fun ls H locs hl hP hS => lv_lookup C.hx C.hb hd hp ho ht (k ls H locs hl hP hS)
theorem rg_tableK (C : ra_C Z cc nL own fr lo) {dflt lw hi : Int} {offs : Array Int} {len : Nat} {x : Int32} {off : Int} {tgt : Nat} (c : Int32) (hc : x = c) (hd : decode cc pc = .ok (.tableswitch dflt lw hi offs, len)) (h1 : ¬ c.toInt < lw) (h2 : ¬ hi < c.toInt) (ho : offs[(c.toInt - lw).toNat]? = some off) (ht : (pc : Int) + off = (tgt : Int)) (k : ra_J Z nL tgt lv st w) : ra_J Z nL pc lv (.int x :: st) w := by
  subst hc
  exact rg_tableIn C hd h1 h2 ho ht k
theorem rg_lookK (C : ra_C Z cc nL own fr lo) {dflt : Int} {ps : Array (Int × Int)} {len : Nat} {x : Int32} {off : Int} {tgt : Nat} (c : Int32) (hc : x = c) (hd : decode cc pc = .ok (.lookupswitch dflt ps, len)) (hp : (ps.toList.zip (ps.toList.drop 1)).all (fun (a, next) => a.1 < next.1) = true) (ho : Op.lookupswitch.offset ps.toList dflt c.toInt = off) (ht : (pc : Int) + off = (tgt : Int)) (k : ra_J Z nL tgt lv st w) : ra_J Z nL pc lv (.int x :: st) w := by
  subst hc
  exact rg_lookup C hd hp ho ht k
theorem rg_ldcw (C : ra_C Z cc nL own fr lo) {idx : Nat} {v : Int32} (hc : Cond.constant own idx v ∈ TW) (hd : decode cc pc = .ok (.ldc_w idx, 3)) (k : ra_J Z nL (pc + 3) lv (.int v :: st) w) : ra_J Z nL pc lv st w := fun ls H locs hl hP hS => lv_ldcw C.hx C.hb C.hown (C.hts _ hc) hd (k ls H locs hl hP hS)
theorem rg_get (C : ra_C Z cc nL own fr lo) (k ci j : Nat) (hk : ra_kd k = (ci, 0)) (hci : ci < 7) {Cn : String} {T : u_T} {N idx : Nat} (hcl : vwCl[ci]? = some (Cn, T, N)) (hin : ∀ w ∈ u_ws Cn T N, w ∈ TW) (hj : j < N) (hlk : Cond.fieldLink own idx (T j).1 (T j).2.1 (T j).2.2.1 ∈ TW) {v : Value} (hv : (ra_fs (zG Z).1 ci k (w k))[j]? = some v) (hd : decode cc pc = .ok (.getfield idx, 3)) (kk : ra_J Z nL (pc + 3) lv (v :: st) w) : ra_J Z nL pc lv (.ref ((zG Z).1 k) :: st) w :=
  fun ls H locs hl hP hS => va_get (D := (zG Z).2.1) C.hx C.hb C.hts hin C.hown C.hK hP k (ra_getO _ _ hk hci) hcl j hj (C.hts _ hlk) (fun _ h => h) hv hd (kk ls H locs hl hP hS)
theorem rg_put (C : ra_C Z cc nL own fr lo) (k ci j : Nat) (hk : ra_kd k = (ci, 0)) (hci : ci < 7) {Cn : String} {T : u_T} {N idx : Nat} (hcl : vwCl[ci]? = some (Cn, T, N)) (hin : ∀ w ∈ u_ws Cn T N, w ∈ TW) (ty0 : Nat → FieldType) (hty : ∀ k, k < N → parseFieldDescriptor (T k).2.2.1 = some (ty0 k)) (hnm : ∀ a, a < N → ∀ b, b < N → a ≠ b → (T a).2.1 ≠ (T b).2.1) (hj : j < N) (hlk : Cond.fieldLink own idx (T j).1 (T j).2.1 (T j).2.2.1 ∈ TW) (hfin : (T j).2.2.2 = false) {x : Int32} (hn : narrow (ty0 j) (.int x) = .int x) (hfit : fits (ty0 j) (.int x) = true) (hl0 : j < (ra_fs (zG Z).1 ci k (w k)).length) (hset : (ra_fs (zG Z).1 ci k (w k)).set j (.int x) = ra_fs (zG Z).1 ci k (upd (w k) j x)) (hd : decode cc pc = .ok (.putfield idx, 3)) (kk : ra_J Z nL (pc + 3) lv st (ra_st w k j x)) : ra_J Z nL pc lv (.int x :: .ref ((zG Z).1 k) :: st) w := by
  intro ls H locs hl hP hS
  refine va_put (D := (zG Z).2.1) (ty := ty0 j) C.hx C.hb C.hts hin ty0 hty hnm C.hown C.hK hP (C.hD w) hS k (ra_getO _ _ hk hci) hcl j hj (C.hts _ hlk) (fun _ h => h) hfin (hty j hj) hn hfit hl0 hd (fun H1 locs1 hP1 _ hS1 => ?_)
  rw [hset, ra_setO _ _ hk hci] at hP1
  exact kk ls H1 locs1 hl hP1 hS1
theorem rg_iald (C : ra_C Z cc nL own fr lo) (k : Nat) {n : Nat} (hk : ra_kd k = (10, n)) {i : Int32} {j : Nat} (hj : ra_ix i = j) (hin : ra_in i n) (hd : decode cc pc = .ok (.iaload, 1)) (kk : ra_J Z nL (pc + 1) lv (.int (w k j) :: st) w) : ra_J Z nL pc lv (.int i :: .ref ((zG Z).1 k) :: st) w := by
  subst hj
  exact fun ls H locs hl hP hS => va_iald (D := (zG Z).2.1) C.hx C.hb C.hK hP k 0 (ra_getA _ _ hk) rfl hin hd (kk ls H locs hl hP hS)
theorem rg_zald (C : ra_C Z cc nL own fr lo) (k : Nat) {n : Nat} (hk : ra_kd k = (11, n)) {i : Int32} {j : Nat} (hj : ra_ix i = j) (hin : ra_in i n) (hd : decode cc pc = .ok (.baload, 1)) (kk : ra_J Z nL (pc + 1) lv (.int (w k j) :: st) w) : ra_J Z nL pc lv (.int i :: .ref ((zG Z).1 k) :: st) w := by
  subst hj
  exact fun ls H locs hl hP hS => va_zald (D := (zG Z).2.1) C.hx C.hb C.hK hP k 1 (ra_getZ _ _ hk) rfl hin hd (kk ls H locs hl hP hS)
theorem rg_aald (C : ra_C Z cc nL own fr lo) (k : Nat) {n : Nat} (hk : ra_kd k = (12, n)) {i : Int32} (hin : ra_in i n) (hd : decode cc pc = .ok (.aaload, 1)) (kk : ra_J Z nL (pc + 1) lv (.ref ((zG Z).1 (ra_rs k (ra_ix i))) :: st) w) : ra_J Z nL pc lv (.int i :: .ref ((zG Z).1 k) :: st) w :=
  fun ls H locs hl hP hS => va_aldq (D := (zG Z).2.1) C.hx C.hb C.hK hP k 2 (ra_getS _ _ hk) rfl hin hd (kk ls H locs hl hP hS)
theorem rg_iast (C : ra_C Z cc nL own fr lo) (k : Nat) {n : Nat} (hk : ra_kd k = (10, n)) {i x : Int32} {j : Nat} (hj : ra_ix i = j) (hin : ra_in i n) (hd : decode cc pc = .ok (.iastore, 1)) (kk : ra_J Z nL (pc + 1) lv st (ra_st w k j x)) : ra_J Z nL pc lv (.int x :: .int i :: .ref ((zG Z).1 k) :: st) w := by
  subst hj
  intro ls H locs hl hP hS
  refine va_iast (D := (zG Z).2.1) C.hx C.hb C.hK hP (C.hD w) hS k 0 (ra_getA _ _ hk) rfl hin hd (fun H1 locs1 hP1 _ hS1 => ?_)
  rw [ra_setA _ _ hk] at hP1
  exact kk ls H1 locs1 hl hP1 hS1
theorem rg_zast (C : ra_C Z cc nL own fr lo) (k : Nat) {n : Nat} (hk : ra_kd k = (11, n)) {i x : Int32} {j : Nat} (hj : ra_ix i = j) (hx : vp_nar .boolean x = x) (hin : ra_in i n) (hd : decode cc pc = .ok (.bastore, 1)) (kk : ra_J Z nL (pc + 1) lv st (ra_st w k j x)) : ra_J Z nL pc lv (.int x :: .int i :: .ref ((zG Z).1 k) :: st) w := by
  subst hj
  intro ls H locs hl hP hS
  refine va_zast (D := (zG Z).2.1) C.hx C.hb C.hK hP (C.hD w) hS k 1 (ra_getZ _ _ hk) rfl hin hd (fun H1 locs1 hP1 _ hS1 => ?_)
  rw [hx, ra_setZ _ _ hk] at hP1
  exact kk ls H1 locs1 hl hP1 hS1
theorem rg_max (C : ra_C Z cc nL own fr lo) {idx : Nat} (hlk : Cond.methodLink own idx Lib.Math.max.name ∈ TW) (h2 : Cond.static Lib.Math.max.name ∈ TW) (h3 : Cond.initialized "java/lang/Math" ∈ TW) (h4 : Cond.code Lib.Math.max.name Lib.Math.max.code 2 (some .int) ∈ TW) (hfr : 1 ≤ fr) (hlo : (st.map fun v => v.category).sum + 13 ≤ lo) {x y : Int32} (hd : decode cc pc = .ok (.invokestatic idx, 3)) (kk : ra_J Z nL (pc + 3) lv (.int (if x < y then y else x) :: st) w) : ra_J Z nL pc lv (.int y :: .int x :: st) w :=
  fun ls H locs hl hP hS => va_mmax C.hx C.hb (C.hml.trans hl.1.symm) C.hown (C.hts _ hlk) (C.hts _ h2) (C.hts _ h3) (C.hts _ h4) (Nat.le_trans hfr C.hro.1) (Nat.le_trans hlo C.hro.2) C.hce.1 C.hce.2 hd (kk ls H locs hl hP hS)
theorem rg_min (C : ra_C Z cc nL own fr lo) {idx : Nat} (hlk : Cond.methodLink own idx Lib.Math.min.name ∈ TW) (h2 : Cond.static Lib.Math.min.name ∈ TW) (h3 : Cond.initialized "java/lang/Math" ∈ TW) (h4 : Cond.code Lib.Math.min.name Lib.Math.min.code 2 (some .int) ∈ TW) (hfr : 1 ≤ fr) (hlo : (st.map fun v => v.category).sum + 13 ≤ lo) {x y : Int32} (hd : decode cc pc = .ok (.invokestatic idx, 3)) (kk : ra_J Z nL (pc + 3) lv (.int (if y < x then y else x) :: st) w) : ra_J Z nL pc lv (.int y :: .int x :: st) w :=
  fun ls H locs hl hP hS => va_mmin C.hx C.hb (C.hml.trans hl.1.symm) C.hown (C.hts _ hlk) (C.hts _ h2) (C.hts _ h3) (C.hts _ h4) (Nat.le_trans hfr C.hro.1) (Nat.le_trans hlo C.hro.2) C.hce.1 C.hce.2 hd (kk ls H locs hl hP hS)
def ra_cp (w : ra_W) (k0 sp k1 dp n : Nat) : ra_W := ra_up w k1 (va_cpy (w k0) (w k1) sp dp n)
theorem rg_copy (C : ra_C Z cc nL own fr lo) {idx : Nat} (hlk : Cond.methodLink own idx arraycopyName ∈ TW) (h1 : Cond.native arraycopyName ∈ TW) (h2 : Cond.static arraycopyName ∈ TW) (h3 : Cond.initialized "java/lang/System" ∈ TW) (k0 k1 : Nat) {n0 n1 : Nat} (hk0 : ra_kd k0 = (10, n0)) (hk1 : ra_kd k1 = (10, n1)) {sp dp n : Int32} {s0 d0 m0 : Nat} (e1 : sp.toNatClampNeg = s0) (e2 : dp.toNatClampNeg = d0) (e3 : n.toNatClampNeg = m0) (hsp : ¬ sp < 0) (hdp : ¬ dp < 0) (hn : ¬ n < 0) (h4 : s0 + m0 ≤ n0) (h5 : d0 + m0 ≤ n1) (hfr : 1 ≤ fr) (hlo : (st.map fun v => v.category).sum + (nativeFrameWords "java/lang/System" "arraycopy" 5 + 11) ≤ lo) (hd : decode cc pc = .ok (.invokestatic idx, 3)) (kk : ra_J Z nL (pc + 3) lv st (ra_cp w k0 s0 k1 d0 m0)) : ra_J Z nL pc lv (.int n :: .int dp :: .ref ((zG Z).1 k1) :: .int sp :: .ref ((zG Z).1 k0) :: st) w := by
  subst e1; subst e2; subst e3
  intro ls H locs hl hP hS
  refine va_copyi (D := (zG Z).2.1) (ty := .int) C.hx C.hb (C.hml.trans hl.1.symm) C.hown (C.hts _ hlk) (C.hts _ h1) (C.hts _ h2) (C.hts _ h3) C.hK hP (C.hD w) hS k0 k1 0 0 (ra_getA _ _ hk0) (ra_getA _ _ hk1) rfl rfl rfl hsp hdp hn h4 h5 (fun _ _ => rfl) (Nat.le_trans hfr C.hro.1) (Nat.le_trans hlo C.hro.2) hd (fun H1 locs1 hP1 _ hS1 => ?_)
  rw [ra_setA _ _ hk1] at hP1
  exact kk ls H1 locs1 hl hP1 hS1
theorem rg_iret (C : ra_C Z cc nL own fr lo) {r x : Int32} {w1 : ra_W} (hQ : ra_QI Z r w1) (hr : (zmt Z).sig.returnType = some .int) (hf : some (x, w) = some (r, w1)) (hd : decode cc pc = .ok (.ireturn, 1)) : ra_J Z nL pc lv [.int x] w := by
  cases hf
  intro ls H locs hl hP hS
  rw [hQ]
  exact W.iret C.hx C.hb hr (fun t ht hW => ⟨⟨_, (), rfl, rfl, by rw [ht]; exact hP, va_K.moved hW.alike C.hK⟩, hS.F ht⟩) hS.2.2 hd C.hlk
theorem rg_zret (C : ra_C Z cc nL own fr lo) {r x : Int32} {w1 : ra_W} (hQ : ra_QI Z r w1) (hr : (zmt Z).sig.returnType = some .boolean) (hn : x = 0 ∨ x = 1) (hf : some (x, w) = some (r, w1)) (hd : decode cc pc = .ok (.ireturn, 1)) : ra_J Z nL pc lv [.int x] w := by
  cases hf
  intro ls H locs hl hP hS
  rw [hQ]
  exact W.zret C.hx C.hb hr (by rcases hn with e | e <;> subst e <;> decide) (fun t ht hW => ⟨⟨_, (), rfl, rfl, by rw [ht]; exact hP, va_K.moved hW.alike C.hK⟩, hS.F ht⟩) hS.2.2 hd C.hlk
theorem rg_vret (C : ra_C Z cc nL own fr lo) {r x : Int32} {w1 : ra_W} (hQ : ra_QV Z r w1) (hr : (zmt Z).sig.returnType = none) (hf : some (x, w) = some (r, w1)) (hd : decode cc pc = .ok (.return_, 1)) : ra_J Z nL pc lv [] w := by
  cases hf
  intro ls H locs hl hP hS
  rw [hQ]
  exact W.vret C.hx C.hb hr (fun t ht hW => ⟨⟨(), rfl, trivial, by rw [ht]; exact hP, va_K.moved hW.alike C.hK⟩, hS.F ht⟩) hS.2.2 hd C.hlk
theorem ra_blind (G : ra_G) (w : ra_W) (av : List Value) : FrameBlind (va_Pc av (fun U => ra_K G w U)) := fun a U g mk q => by
  obtain ⟨q0, qP, qK⟩ := q
  exact ⟨q0, qP, va_K.moved (u := U) (U := U.calling g mk a) (Vm.Alike.refl U.vm) qK⟩
theorem ra_callB (C : ra_C Z cc nL own fr lo) {y : MethodName} {bytes : ByteArray} {maxL n fr' lo' idx : Nat} {ret : Option FieldType} (hY : ra_Y y bytes maxL ret n) (hlk : Cond.methodLink own idx y ∈ TW) (hR : fr' + 1 ≤ fr ∧ 8 + (maxL + 11) + lo' ≤ lo) : CallB (zR Z) (zs Z) (zar Z) own idx y bytes maxL ret (.code y bytes maxL ret :: TW) (ra_rm fr' lo') 0 0 n :=
  callB_of n C.hts (ra_good hY.2.1) rfl rfl rfl (C.hts _ hY.1) (C.hts _ hlk) hY.2.2 ⟨Nat.le_trans hR.1 C.hro.1, Nat.le_trans hR.2 C.hro.2⟩
theorem ra_toA (C : ra_C Z cc nL own fr lo) : ∀ q, ra_A (zG Z) q → zA Z q := fun q h => by
  obtain ⟨k, hk, e⟩ := h
  rw [e]
  exact C.hA k hk
theorem rg_callVI (C : ra_C Z cc nL own fr lo) {y : MethodName} {bytes : ByteArray} {maxL n fr' lo' idx k ci : Nat} {ret : Option FieldType} {As stk : List Value} {r : Int32} {w1 : ra_W} {Cn : String} {T : u_T} {N : Nat} (hM : ra_MI (zl Z) (zG Z) y bytes maxL ret fr' lo' (.ref ((zG Z).1 k) :: As) w r w1) (hk : ra_kd k = (ci, 0)) (hci : ci < 7) (hcl : vwCl[ci]? = some (Cn, T, N)) (hY : ra_YV y bytes maxL ret n Cn) (hn : As.length = n) (hlk : Cond.methodLink own idx y ∈ TW) (hR : fr' + 1 ≤ fr ∧ 8 + (maxL + 11) + lo' ≤ lo) (hs : stk = As.reverse ++ .ref ((zG Z).1 k) :: st) (hst : (st.map fun v => v.category).sum ≤ 8) (hd : decode cc pc = .ok (.invokevirtual idx, 3)) (kk : ra_J Z nL (pc + 3) lv (.int r :: st) w1) : ra_J Z nL pc lv stk w := by
  intro ls H locs hl hP hS
  subst hs
  refine va_calli (va_runV (As := As) (rest := st) (cc := cc) (nL := nL) ⟨C.hx, C.hb, C.hml, C.hown, C.hts⟩ hM ⟨ra_callB C hY.1 hlk hR, C.hts _ hY.2.1, C.hts _ hY.2.2⟩ ⟨ra_blind _ _ _, va_recv C.hK hP hcl (ra_getO _ _ hk hci), fun U hU hW => ⟨rfl, by rw [hU]; exact hP, va_K.moved hW.alike C.hK⟩⟩ rfl hn hl.1 rfl (lv_room hst) hd ⟨C.hce.1, C.hce.2⟩) hS (fun q _ h => ra_toA C q h) (ra_toA C) (fun r' _ t H1 locs1 ht _ hpost hB _ _ hS1 => ?_)
  subst hpost
  exact kk ls H1 locs1 hl (by rw [← ht]; exact hB.1) hS1
theorem rg_callVV (C : ra_C Z cc nL own fr lo) {y : MethodName} {bytes : ByteArray} {maxL n fr' lo' idx k ci : Nat} {ret : Option FieldType} {As stk : List Value} {r : Int32} {w1 : ra_W} {Cn : String} {T : u_T} {N : Nat} (hM : ra_MV (zl Z) (zG Z) y bytes maxL ret fr' lo' (.ref ((zG Z).1 k) :: As) w r w1) (hk : ra_kd k = (ci, 0)) (hci : ci < 7) (hcl : vwCl[ci]? = some (Cn, T, N)) (hY : ra_YV y bytes maxL ret n Cn) (hn : As.length = n) (hlk : Cond.methodLink own idx y ∈ TW) (hR : fr' + 1 ≤ fr ∧ 8 + (maxL + 11) + lo' ≤ lo) (hs : stk = As.reverse ++ .ref ((zG Z).1 k) :: st) (hst : (st.map fun v => v.category).sum ≤ 8) (hd : decode cc pc = .ok (.invokevirtual idx, 3)) (kk : ra_J Z nL (pc + 3) lv st w1) : ra_J Z nL pc lv stk w := by
  intro ls H locs hl hP hS
  subst hs
  refine va_callv (va_runV (As := As) (rest := st) (cc := cc) (nL := nL) ⟨C.hx, C.hb, C.hml, C.hown, C.hts⟩ hM ⟨ra_callB C hY.1 hlk hR, C.hts _ hY.2.1, C.hts _ hY.2.2⟩ ⟨ra_blind _ _ _, va_recv C.hK hP hcl (ra_getO _ _ hk hci), fun U hU hW => ⟨rfl, by rw [hU]; exact hP, va_K.moved hW.alike C.hK⟩⟩ rfl hn hl.1 rfl (lv_room hst) hd ⟨C.hce.1, C.hce.2⟩) hS (fun q _ h => ra_toA C q h) (ra_toA C) (fun _ t H1 locs1 ht _ _ hB _ _ hS1 => ?_)
  exact kk ls H1 locs1 hl (by rw [← ht]; exact hB.1) hS1
theorem rg_callSI (C : ra_C Z cc nL own fr lo) {y : MethodName} {bytes : ByteArray} {maxL n fr' lo' idx : Nat} {ret : Option FieldType} {As stk : List Value} {r : Int32} {w1 : ra_W} (hM : ra_MI (zl Z) (zG Z) y bytes maxL ret fr' lo' As w r w1) (hY : ra_YS y bytes maxL ret n) (hn : As.length = n) (hlk : Cond.methodLink own idx y ∈ TW) (hR : fr' + 1 ≤ fr ∧ 8 + (maxL + 11) + lo' ≤ lo) (hs : stk = As.reverse ++ st) (hst : (st.map fun v => v.category).sum ≤ 8) (hd : decode cc pc = .ok (.invokestatic idx, 3)) (kk : ra_J Z nL (pc + 3) lv (.int r :: st) w1) : ra_J Z nL pc lv stk w := by
  intro ls H locs hl hP hS
  subst hs
  refine va_calli (va_runS (As := As) (rest := st) (cc := cc) (nL := nL) ⟨C.hx, C.hb, C.hml, C.hown, C.hts⟩ hM ⟨ra_callB C hY.1 hlk hR, C.hts _ hY.2⟩ ⟨ra_blind _ _ _, fun U hU hW => ⟨rfl, by rw [hU]; exact hP, va_K.moved hW.alike C.hK⟩⟩ rfl hn hl.1 rfl (lv_room hst) hd ⟨C.hce.1, C.hce.2⟩) hS (fun q _ h => ra_toA C q h) (ra_toA C) (fun r' _ t H1 locs1 ht _ hpost hB _ _ hS1 => ?_)
  subst hpost
  exact kk ls H1 locs1 hl (by rw [← ht]; exact hB.1) hS1
theorem rg_callSV (C : ra_C Z cc nL own fr lo) {y : MethodName} {bytes : ByteArray} {maxL n fr' lo' idx : Nat} {ret : Option FieldType} {As stk : List Value} {r : Int32} {w1 : ra_W} (hM : ra_MV (zl Z) (zG Z) y bytes maxL ret fr' lo' As w r w1) (hY : ra_YS y bytes maxL ret n) (hn : As.length = n) (hlk : Cond.methodLink own idx y ∈ TW) (hR : fr' + 1 ≤ fr ∧ 8 + (maxL + 11) + lo' ≤ lo) (hs : stk = As.reverse ++ st) (hst : (st.map fun v => v.category).sum ≤ 8) (hd : decode cc pc = .ok (.invokestatic idx, 3)) (kk : ra_J Z nL (pc + 3) lv st w1) : ra_J Z nL pc lv stk w := by
  intro ls H locs hl hP hS
  subst hs
  refine va_callv (va_runS (As := As) (rest := st) (cc := cc) (nL := nL) ⟨C.hx, C.hb, C.hml, C.hown, C.hts⟩ hM ⟨ra_callB C hY.1 hlk hR, C.hts _ hY.2⟩ ⟨ra_blind _ _ _, fun U hU hW => ⟨rfl, by rw [hU]; exact hP, va_K.moved hW.alike C.hK⟩⟩ rfl hn hl.1 rfl (lv_room hst) hd ⟨C.hce.1, C.hce.2⟩) hS (fun q _ h => ra_toA C q h) (ra_toA C) (fun _ t H1 locs1 ht _ _ hB _ _ hS1 => ?_)
  exact kk ls H1 locs1 hl (by rw [← ht]; exact hB.1) hS1
end RG
theorem ra_entryI {l : Launch} {G : ra_G} {y : MethodName} {cc : ByteArray} {nL : Nat} {ret : Option FieldType} {fr lo : Nat} {av : List Value} {w : ra_W} {r : Int32} {w1 : ra_W} {own : String} (hp : plainName y.cls = true) (hown : y.cls = own) (hlen : (lg_sl av).length ≤ nL) (hj : ra_inj G)
    (h : ∀ Z : ra_Z, zl Z = l → zG Z = G → ra_C Z cc nL own fr lo → ra_QI Z r w1 → (zmt Z).sig.returnType = ret → ra_J Z nL 0 (lv_args 0 av) [] w) : ra_MI l G y cc nL ret fr lo av w r w1 := by
  refine Met.ofW (cc := cc) (maxL := nL) (ret := ret) hp rfl ?_
  intro p e s m args below meth c s₁ B hml hv
  obtain ⟨rfl, hP, hK⟩ := hv
  have hts := atoms_spec (ws := .code y cc nL ret :: TW) B.pre
  have ho : s.vm.findClass own = some m.cls := hown ▸ findClass_of_methodNamed B.named
  have hl := lv_entry av (n := nL) hlen
  rw [lg_entry_eq]
  generalize (lg_sl av ++ List.replicate (nL - (lg_sl av).length) Slot.unset).toArray = ls at hl ⊢
  exact h (p, l, e, ra_rm fr lo, s, m, av.toArray, below, meth, c, MQ below (va_Qi (fun (r' : Int32) (_ : Unit) => r' = r) (fun _ t => ra_K G w1 t) (ra_A G)) av.toArray s 0 0 (ra_A G), G, ra_A G, 0, 0) rfl rfl ⟨⟨B.exec, B.bytes, hml, ho⟩, fun w hw => hts w (List.mem_cons_of_mem _ hw), hK, hj, fun k hk => ⟨k, hk, rfl⟩, ⟨Nat.le_refl _, Nat.le_refl _⟩, ⟨Nat.le_refl _, Nat.le_refl _⟩, B.notSynchronized⟩ rfl B.returns ls s.heap [] hl hP va_S.rf
theorem ra_entryV {l : Launch} {G : ra_G} {y : MethodName} {cc : ByteArray} {nL : Nat} {ret : Option FieldType} {fr lo : Nat} {av : List Value} {w : ra_W} {r : Int32} {w1 : ra_W} {own : String} (hp : plainName y.cls = true) (hown : y.cls = own) (hlen : (lg_sl av).length ≤ nL) (hj : ra_inj G)
    (h : ∀ Z : ra_Z, zl Z = l → zG Z = G → ra_C Z cc nL own fr lo → ra_QV Z r w1 → (zmt Z).sig.returnType = ret → ra_J Z nL 0 (lv_args 0 av) [] w) : ra_MV l G y cc nL ret fr lo av w r w1 := by
  refine Met.ofW (cc := cc) (maxL := nL) (ret := ret) hp rfl ?_
  intro p e s m args below meth c s₁ B hml hv
  obtain ⟨rfl, hP, hK⟩ := hv
  have hts := atoms_spec (ws := .code y cc nL ret :: TW) B.pre
  have ho : s.vm.findClass own = some m.cls := hown ▸ findClass_of_methodNamed B.named
  have hl := lv_entry av (n := nL) hlen
  rw [lg_entry_eq]
  generalize (lg_sl av ++ List.replicate (nL - (lg_sl av).length) Slot.unset).toArray = ls at hl ⊢
  exact h (p, l, e, ra_rm fr lo, s, m, av.toArray, below, meth, c, MQ below (va_Qv (fun (_ : Unit) => True) (fun _ t => ra_K G w1 t) (ra_A G)) av.toArray s 0 0 (ra_A G), G, ra_A G, 0, 0) rfl rfl ⟨⟨B.exec, B.bytes, hml, ho⟩, fun w hw => hts w (List.mem_cons_of_mem _ hw), hK, hj, fun k hk => ⟨k, hk, rfl⟩, ⟨Nat.le_refl _, Nat.le_refl _⟩, ⟨Nat.le_refl _, Nat.le_refl _⟩, B.notSynchronized⟩ rfl B.returns ls s.heap [] hl hP va_S.rf

theorem kd_0 : ra_kd 0 = (5, 0) := by decide +kernel
theorem kd_1 : ra_kd 1 = (3, 0) := by decide +kernel
theorem kd_2 : ra_kd 2 = (10, 80) := by decide +kernel
theorem kd_3 : ra_kd 3 = (2, 0) := by decide +kernel
theorem kd_4 : ra_kd 4 = (10, 2) := by decide +kernel
theorem kd_5 : ra_kd 5 = (10, 7) := by decide +kernel
theorem kd_6 : ra_kd 6 = (10, 7) := by decide +kernel
theorem kd_7 : ra_kd 7 = (10, 7) := by decide +kernel
theorem kd_8 : ra_kd 8 = (2, 0) := by decide +kernel
theorem kd_9 : ra_kd 9 = (10, 2) := by decide +kernel
theorem kd_10 : ra_kd 10 = (10, 7) := by decide +kernel
theorem kd_11 : ra_kd 11 = (10, 7) := by decide +kernel
theorem kd_12 : ra_kd 12 = (10, 7) := by decide +kernel
theorem kd_13 : ra_kd 13 = (0, 0) := by decide +kernel
theorem kd_14 : ra_kd 14 = (10, 7) := by decide +kernel
theorem kd_15 : ra_kd 15 = (10, 7) := by decide +kernel
theorem kd_16 : ra_kd 16 = (4, 0) := by decide +kernel
theorem kd_17 : ra_kd 17 = (10, 7) := by decide +kernel
theorem kd_18 : ra_kd 18 = (10, 7) := by decide +kernel
theorem kd_19 : ra_kd 19 = (10, 7) := by decide +kernel
theorem kd_20 : ra_kd 20 = (10, 7) := by decide +kernel
theorem kd_21 : ra_kd 21 = (10, 7) := by decide +kernel
theorem kd_22 : ra_kd 22 = (10, 2) := by decide +kernel
theorem kd_23 : ra_kd 23 = (4, 0) := by decide +kernel
theorem kd_24 : ra_kd 24 = (10, 7) := by decide +kernel
theorem kd_25 : ra_kd 25 = (10, 7) := by decide +kernel
theorem kd_26 : ra_kd 26 = (10, 7) := by decide +kernel
theorem kd_27 : ra_kd 27 = (10, 7) := by decide +kernel
theorem kd_28 : ra_kd 28 = (10, 7) := by decide +kernel
theorem kd_29 : ra_kd 29 = (10, 2) := by decide +kernel
theorem kd_30 : ra_kd 30 = (1, 0) := by decide +kernel
theorem kd_31 : ra_kd 31 = (12, 12) := by decide +kernel
theorem kd_32 : ra_kd 32 = (12, 2) := by decide +kernel
theorem kd_33 : ra_kd 33 = (10, 6) := by decide +kernel
theorem kd_34 : ra_kd 34 = (10, 6) := by decide +kernel
theorem kd_35 : ra_kd 35 = (10, 4) := by decide +kernel
theorem kd_134 : ra_kd 134 = (6, 0) := by decide +kernel
theorem kd_135 : ra_kd 135 = (10, 80) := by decide +kernel
theorem kd_136 : ra_kd 136 = (10, 19) := by decide +kernel
theorem kd_137 : ra_kd 137 = (10, 19) := by decide +kernel
theorem kd_138 : ra_kd 138 = (10, 41) := by decide +kernel
theorem kd_139 : ra_kd 139 = (10, 41) := by decide +kernel
theorem kd_140 : ra_kd 140 = (10, 41) := by decide +kernel
theorem kd_141 : ra_kd 141 = (10, 492) := by decide +kernel
theorem kd_142 : ra_kd 142 = (10, 82) := by decide +kernel
theorem kd_143 : ra_kd 143 = (11, 2) := by decide +kernel
theorem kd_144 : ra_kd 144 = (10, 6) := by decide +kernel
theorem kd_145 : ra_kd 145 = (10, 6) := by decide +kernel
theorem kd_146 : ra_kd 146 = (10, 7) := by decide +kernel
theorem kd_147 : ra_kd 147 = (10, 7) := by decide +kernel
theorem kd_148 : ra_kd 148 = (10, 21) := by decide +kernel
def ra_S (b : Nat) : Prop := ra_kd b = (4, 0) ∧ ra_kd (b + 1) = (10, 7) ∧ ra_kd (b + 2) = (10, 7) ∧ ra_kd (b + 3) = (10, 7) ∧ ra_kd (b + 4) = (10, 7) ∧ ra_kd (b + 5) = (10, 7) ∧ ra_kd (b + 6) = (10, 2)
def ra_N (b : Nat) : Prop := ra_kd b = (2, 0) ∧ ra_kd (b + 1) = (10, 2) ∧ ra_kd (b + 2) = (10, 7) ∧ ra_kd (b + 3) = (10, 7) ∧ ra_kd (b + 4) = (10, 7)
theorem ra_S16 : ra_S 16 := by unfold ra_S; decide +kernel
theorem ra_S23 : ra_S 23 := by unfold ra_S; decide +kernel
theorem ra_N3 : ra_N 3 := by unfold ra_N; decide +kernel
theorem ra_N8 : ra_N 8 := by unfold ra_N; decide +kernel
theorem ra_S_all : ∀ j : Fin 14, ra_S (36 + 7 * j.val) := by unfold ra_S; decide +kernel
theorem ra_S31 {i : Int32} (h : ra_in i 12) : ra_S (ra_rs 31 (ra_ix i)) := by
  have hlt : i.toNatClampNeg < 12 := Nat.not_le.mp fun q => h (Or.inr q)
  have e : ra_rs 31 (ra_ix i) = 36 + 7 * (⟨i.toNatClampNeg + 2, by omega⟩ : Fin 14).val := by
    show 50 + 7 * i.toNatClampNeg = 36 + 7 * (i.toNatClampNeg + 2)
    omega
  rw [e]
  exact ra_S_all _
theorem ra_S32 {i : Int32} (h : ra_in i 2) : ra_S (ra_rs 32 (ra_ix i)) := by
  have hlt : i.toNatClampNeg < 2 := Nat.not_le.mp fun q => h (Or.inr q)
  have e : ra_rs 32 (ra_ix i) = 36 + 7 * (⟨i.toNatClampNeg, by omega⟩ : Fin 14).val := by
    show 36 + 7 * i.toNatClampNeg = 36 + 7 * i.toNatClampNeg
    rfl
  rw [e]
  exact ra_S_all _
