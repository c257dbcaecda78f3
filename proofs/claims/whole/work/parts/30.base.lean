/-! Numbers: everything that a run counts is nI of a small number, or a small negative one. -/
theorem zS_lt {a b : Nat} (ha : a < 2147483648) (hb : b < 2147483648) : (nI a < nI b) = (a < b) := propext (nI_ltI ha hb)
theorem zS_le {a b : Nat} (ha : a < 2147483648) (hb : b < 2147483648) : (nI a ≤ nI b) = (a ≤ b) := propext (nI_leI ha hb)
theorem zS_eq {a b : Nat} (ha : a < 2147483648) (hb : b < 2147483648) : (nI a = nI b) = (a = b) := propext (nI_eq ha hb)
theorem zS_add (a b : Nat) : nI a + nI b = nI (a + b) := nI_add a b
theorem zS_mul (a b : Nat) : nI a * nI b = nI (a * b) := pk_mul a b
theorem zS_sub {a b : Nat} (h : b ≤ a) : nI a - nI b = nI (a - b) := pk_sub h
theorem zS_cl {a : Nat} (h : a < 2147483648) : (nI a).toNatClampNeg = a := nI_clamp h
theorem zS_ib {a : Nat} (n : Nat) (h : a < 2147483648) : zib (nI a) n = decide (a < n) := by
  have h1 : ¬ nI a < 0 := nI_pos h
  unfold zib
  rw [decide_eq_false h1, zS_cl h]
  by_cases hn : a < n
  · have h2 : Nat.ble n a = false := by
      cases hb : Nat.ble n a with
      | false => rfl
      | true => exact absurd (Nat.le_of_ble_eq_true hb) (by omega)
    simp [h2, hn]
  · have h2 : Nat.ble n a = true := Nat.ble_eq_true_of_le (by omega)
    simp [h2, hn]
theorem zS_ceq {a b : Nat} (ha : a < 2147483648) (hb : b < 2147483648) : zci .eq (nI a) (nI b) = decide (a = b) := by
  simp only [zci, zS_eq ha hb]
theorem zS_cne {a b : Nat} (ha : a < 2147483648) (hb : b < 2147483648) : zci .ne (nI a) (nI b) = !decide (a = b) := by
  simp only [zci, zS_eq ha hb]
theorem zS_clt {a b : Nat} (ha : a < 2147483648) (hb : b < 2147483648) : zci .lt (nI a) (nI b) = decide (a < b) := by
  simp only [zci, zS_lt ha hb]
theorem zS_cge {a b : Nat} (ha : a < 2147483648) (hb : b < 2147483648) : zci .ge (nI a) (nI b) = decide (b ≤ a) := by
  simp only [zci, zS_le hb ha]
theorem zS_cgt {a b : Nat} (ha : a < 2147483648) (hb : b < 2147483648) : zci .gt (nI a) (nI b) = decide (b < a) := by
  simp only [zci, zS_lt hb ha]
theorem zS_cle {a b : Nat} (ha : a < 2147483648) (hb : b < 2147483648) : zci .le (nI a) (nI b) = decide (a ≤ b) := by
  simp only [zci, zS_le ha hb]
theorem zS_bo (b : Bool) : zbo (nI b.toNat) = true := by cases b <;> decide
theorem zS_bo0 : zbo (nI 0) = true := by decide
theorem zS_bo1 : zbo (nI 1) = true := by decide
/-- a truth as a number -/
theorem zS_tn (b : Bool) : b.toNat < 2147483648 := by cases b <;> decide
theorem zS_b0 (b : Bool) : zci .eq (nI b.toNat) (nI 0) = !b := by cases b <;> decide
theorem zS_b0n (b : Bool) : zci .ne (nI b.toNat) (nI 0) = b := by cases b <;> decide
theorem zS_b1 (b : Bool) : zci .eq (nI b.toNat) (nI 1) = b := by cases b <;> decide
theorem zS_b1n (b : Bool) : zci .ne (nI b.toNat) (nI 1) = !b := by cases b <;> decide
theorem zS_and (a b : Nat) : zand (nI a) (nI b) = nI (a &&& b) := by
  apply Int32.toBitVec_inj.mp
  show BitVec.ofNat 32 a &&& BitVec.ofNat 32 b = BitVec.ofNat 32 (a &&& b)
  rw [BitVec.ofNat_and]
theorem zS_or (a b : Nat) : zor (nI a) (nI b) = nI (a ||| b) := by
  apply Int32.toBitVec_inj.mp
  show BitVec.ofNat 32 a ||| BitVec.ofNat 32 b = BitVec.ofNat 32 (a ||| b)
  rw [BitVec.ofNat_or]
theorem zS_xor (a b : Nat) : zxor (nI a) (nI b) = nI (a ^^^ b) := by
  apply Int32.toBitVec_inj.mp
  show BitVec.ofNat 32 a ^^^ BitVec.ofNat 32 b = BitVec.ofNat 32 (a ^^^ b)
  rw [BitVec.ofNat_xor]
theorem zS_shl1 : ∀ k, k < 16 → zshl (nI 1) (nI k) = nI (2 ^ k) := by decide +kernel
/-- a bit of a small set -/
theorem zS_shr : ∀ x, x < 256 → ∀ k, k < 8 → zshr (nI x) (nI k) = nI (x >>> k) := by decide +kernel
theorem zS_bit (x k : Nat) : x >>> k &&& 1 = (x.testBit k).toNat := by
  rw [Nat.and_one_is_mod, Nat.testBit_eq_decide_div_mod_eq, Nat.shiftRight_eq_div_pow]
  rcases Nat.mod_two_eq_zero_or_one (x / 2 ^ k) with h | h <;> simp [h]
theorem zS_zup_same (h : zHp) (a k : Nat) (x : Int32) : zup h a k x a k = x := by simp [zup]
theorem zS_zup_ne (h : zHp) {a b : Nat} (hb : b ≠ a) (k j : Nat) (x : Int32) : zup h a k x b j = h b j := by simp [zup, hb]
theorem zS_zup_nk (h : zHp) (a : Nat) {k j : Nat} (hj : j ≠ k) (x : Int32) : zup h a k x a j = h a j := by simp [zup, hj]
theorem zS_neg (n : Nat) (x : Int32) (hx : x < 0) (hn : n < 2147483648) : ¬ nI n = x := fun e => nI_pos hn (e ▸ hx)
