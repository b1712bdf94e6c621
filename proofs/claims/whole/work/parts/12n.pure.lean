/-! BITS -/
def bn (p : Nat → Bool) : Nat → Nat
  | 0 => 0
  | i + 1 => if p i = true then bn p i ||| 2 ^ i else bn p i
theorem bn_t {p : Nat → Bool} : ∀ n r, (bn p n).testBit r = (decide (r < n) && p r)
  | 0, r => by simp [bn]
  | n + 1, r => by
    have ih := bn_t (p := p) n r
    simp only [bn]
    by_cases e : r = n
    · subst e
      by_cases h : p r = true
      · rw [if_pos h, Nat.testBit_or, Nat.testBit_two_pow_self, h]
        simp
      · rw [if_neg h, ih]
        simp [h]
    · have : (decide (r < n + 1)) = decide (r < n) := by
        have : (r < n + 1) ↔ (r < n) := by omega
        simp [this]
      rw [this, ← ih]
      split
      · rw [Nat.testBit_or, Nat.testBit_two_pow_of_ne (fun z => e z.symm)]
        simp
      · rfl
theorem bn_lt {p : Nat → Bool} {n : Nat} : bn p n < 2 ^ n := Nat.lt_pow_two_of_testBit _ (fun i hi => by rw [bn_t]; simp; omega)
theorem bn_128 {p : Nat → Bool} {n : Nat} (h : n ≤ 7) : bn p n < 128 := Nat.lt_of_lt_of_le bn_lt (show 2 ^ n ≤ 2 ^ 7 from Nat.pow_le_pow_right (by decide) h)
theorem pu_shln {r : Nat} (hr : r < 21) : (1 : Int32) <<< (nI r &&& 31) = nI (2 ^ r) := by
  have : ∀ r : Fin 21, (1 : Int32) <<< (nI r.val &&& 31) = nI (2 ^ r.val) := by decide +kernel
  exact this ⟨r, hr⟩
theorem nI_bv {a : Nat} : (nI a).toBitVec = BitVec.ofNat 32 a := rfl
theorem pu_orn {a b : Nat} : nI a ||| nI b = nI (a ||| b) := by
  apply Int32.toBitVec_inj.mp
  rw [Int32.toBitVec_or, nI_bv, nI_bv, nI_bv]
  apply BitVec.eq_of_getLsbD_eq
  intro i hi
  simp only [BitVec.getLsbD_or, BitVec.getLsbD_ofNat, Nat.testBit_or]
  simp [hi]
theorem pu_or0 (x : Int32) : x ||| 0 = x := by
  apply Int32.toBitVec_inj.mp
  rw [Int32.toBitVec_or]
  exact BitVec.or_zero
theorem pu_andn {a b : Nat} (ha : a < 128) : nI a &&& (nI b ^^^ (-1)) = nI (a &&& (b ^^^ 127)) := by
  apply Int32.toBitVec_inj.mp
  rw [Int32.toBitVec_and, Int32.toBitVec_xor, nI_bv, nI_bv, nI_bv, show (-1 : Int32).toBitVec = BitVec.allOnes 32 by decide]
  apply BitVec.eq_of_getLsbD_eq
  intro i hi
  simp only [BitVec.getLsbD_and, BitVec.getLsbD_xor, BitVec.getLsbD_ofNat, BitVec.getLsbD_allOnes, Nat.testBit_and, Nat.testBit_xor]
  rcases Nat.lt_or_ge i 7 with q | q
  · have : Nat.testBit 127 i = true := by
      have : ∀ i : Fin 7, Nat.testBit 127 i.val = true := by decide
      exact this ⟨i, q⟩
    simp [hi, this]
  · have : Nat.testBit a i = false := Nat.testBit_lt_two_pow (Nat.lt_of_lt_of_le ha (show 2 ^ 7 ≤ 2 ^ i from Nat.pow_le_pow_right (by decide) q))
    simp [this]
theorem pu_has {a r : Nat} (ha : a < 128) (hr : r < 7) : ((nI a >>> (nI r &&& 31)) &&& 1 = 1) ↔ a.testBit r = true := by
  have : ∀ a : Fin 128, ∀ r : Fin 7, ((nI a.val >>> (nI r.val &&& 31)) &&& 1 = 1) ↔ a.val.testBit r.val = true := by decide +kernel
  exact this ⟨a, ha⟩ ⟨r, hr⟩
def pu_pop (a : Nat) : Nat := pu_cnt (fun r => a.testBit r) 7
def bcx (v0 : Int32) : Int32 := ((((((((v0 - (((v0.toUInt32 >>> ((1 : Int32).toUInt32 &&& Int32.toUInt32 31)).toInt32) &&& 1431655765)) &&& 858993459) + ((((v0 - (((v0.toUInt32 >>> ((1 : Int32).toUInt32 &&& Int32.toUInt32 31)).toInt32) &&& 1431655765)).toUInt32 >>> ((2 : Int32).toUInt32 &&& Int32.toUInt32 31)).toInt32) &&& 858993459)) + (((((v0 - (((v0.toUInt32 >>> ((1 : Int32).toUInt32 &&& Int32.toUInt32 31)).toInt32) &&& 1431655765)) &&& 858993459) + ((((v0 - (((v0.toUInt32 >>> ((1 : Int32).toUInt32 &&& Int32.toUInt32 31)).toInt32) &&& 1431655765)).toUInt32 >>> ((2 : Int32).toUInt32 &&& Int32.toUInt32 31)).toInt32) &&& 858993459)).toUInt32 >>> ((4 : Int32).toUInt32 &&& Int32.toUInt32 31)).toInt32)) &&& 252645135) + (((((((v0 - (((v0.toUInt32 >>> ((1 : Int32).toUInt32 &&& Int32.toUInt32 31)).toInt32) &&& 1431655765)) &&& 858993459) + ((((v0 - (((v0.toUInt32 >>> ((1 : Int32).toUInt32 &&& Int32.toUInt32 31)).toInt32) &&& 1431655765)).toUInt32 >>> ((2 : Int32).toUInt32 &&& Int32.toUInt32 31)).toInt32) &&& 858993459)) + (((((v0 - (((v0.toUInt32 >>> ((1 : Int32).toUInt32 &&& Int32.toUInt32 31)).toInt32) &&& 1431655765)) &&& 858993459) + ((((v0 - (((v0.toUInt32 >>> ((1 : Int32).toUInt32 &&& Int32.toUInt32 31)).toInt32) &&& 1431655765)).toUInt32 >>> ((2 : Int32).toUInt32 &&& Int32.toUInt32 31)).toInt32) &&& 858993459)).toUInt32 >>> ((4 : Int32).toUInt32 &&& Int32.toUInt32 31)).toInt32)) &&& 252645135).toUInt32 >>> ((8 : Int32).toUInt32 &&& Int32.toUInt32 31)).toInt32)) + ((((((((v0 - (((v0.toUInt32 >>> ((1 : Int32).toUInt32 &&& Int32.toUInt32 31)).toInt32) &&& 1431655765)) &&& 858993459) + ((((v0 - (((v0.toUInt32 >>> ((1 : Int32).toUInt32 &&& Int32.toUInt32 31)).toInt32) &&& 1431655765)).toUInt32 >>> ((2 : Int32).toUInt32 &&& Int32.toUInt32 31)).toInt32) &&& 858993459)) + (((((v0 - (((v0.toUInt32 >>> ((1 : Int32).toUInt32 &&& Int32.toUInt32 31)).toInt32) &&& 1431655765)) &&& 858993459) + ((((v0 - (((v0.toUInt32 >>> ((1 : Int32).toUInt32 &&& Int32.toUInt32 31)).toInt32) &&& 1431655765)).toUInt32 >>> ((2 : Int32).toUInt32 &&& Int32.toUInt32 31)).toInt32) &&& 858993459)).toUInt32 >>> ((4 : Int32).toUInt32 &&& Int32.toUInt32 31)).toInt32)) &&& 252645135) + (((((((v0 - (((v0.toUInt32 >>> ((1 : Int32).toUInt32 &&& Int32.toUInt32 31)).toInt32) &&& 1431655765)) &&& 858993459) + ((((v0 - (((v0.toUInt32 >>> ((1 : Int32).toUInt32 &&& Int32.toUInt32 31)).toInt32) &&& 1431655765)).toUInt32 >>> ((2 : Int32).toUInt32 &&& Int32.toUInt32 31)).toInt32) &&& 858993459)) + (((((v0 - (((v0.toUInt32 >>> ((1 : Int32).toUInt32 &&& Int32.toUInt32 31)).toInt32) &&& 1431655765)) &&& 858993459) + ((((v0 - (((v0.toUInt32 >>> ((1 : Int32).toUInt32 &&& Int32.toUInt32 31)).toInt32) &&& 1431655765)).toUInt32 >>> ((2 : Int32).toUInt32 &&& Int32.toUInt32 31)).toInt32) &&& 858993459)).toUInt32 >>> ((4 : Int32).toUInt32 &&& Int32.toUInt32 31)).toInt32)) &&& 252645135).toUInt32 >>> ((8 : Int32).toUInt32 &&& Int32.toUInt32 31)).toInt32)).toUInt32 >>> ((16 : Int32).toUInt32 &&& Int32.toUInt32 31)).toInt32)) &&& 63)
theorem bcx_pop {a : Nat} (ha : a < 128) : bcx (nI a) = nI (pu_pop a) := by
  have : ∀ a : Fin 128, bcx (nI a.val) = nI (pu_pop a.val) := by decide +kernel
  exact this ⟨a, ha⟩
theorem qj_bitCount {k a : Nat} {w : ra_W} (hk : 1 ≤ k) (ha : a < 128) : FJ6_bitCount_0f7a4 k (nI a) w = some (nI (pu_pop a), w) := by
  obtain ⟨k, rfl⟩ : ∃ q, k = q + 1 := ⟨k - 1, by omega⟩
  unfold FJ6_bitCount_0f7a4
  rw [fJ6_bitCount_0f7a4_0, ← bcx_pop ha]
  rfl
theorem pu_pop_bn {p : Nat → Bool} {n : Nat} (hn : n ≤ 7) : pu_pop (bn p n) = pu_cnt p n := by
  unfold pu_pop
  have : ∀ d, pu_cnt (fun r => (bn p n).testBit r) (n + d) = pu_cnt p n := by
    intro d
    induction d with
    | zero => exact pu_cnt_cong (fun r hr => by rw [bn_t]; simp; omega)
    | succ d ih =>
      have e : pu_cnt (fun r => (bn p n).testBit r) (n + d + 1) = pu_cnt (fun r => (bn p n).testBit r) (n + d) + (if (bn p n).testBit (n + d) = true then 1 else 0) := rfl
      show pu_cnt (fun r => (bn p n).testBit r) (n + d + 1) = _
      rw [e, ih, bn_t]
      simp
      omega
  have h := this (7 - n)
  rw [show n + (7 - n) = 7 by omega] at h
  exact h
