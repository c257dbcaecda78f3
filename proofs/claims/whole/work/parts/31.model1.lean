/-! The reference's small questions, over its row of numbers m. -/
def zof (m : Nat → Nat) (c w : Nat) : Nat := m (5 * c + w)
def zln (m : Nat → Nat) (a b : Nat) : Nat := m (40 + 8 * a + b)
def zbd (m : Nat → Nat) (a b : Nat) : Nat := m (133 + 4 * a + b)
def zev8 (m : Nat → Nat) : Nat := m 149
def znb (m : Nat → Nat) : Nat := m 132
/-- the row of numbers in the heap -/
def zR (h : zHp) (m : Nat → Nat) : Prop := ∀ k, k < 150 → h 77 k = nI (m k)
/-- what the row always keeps: sizes -/
def zB (m : Nat → Nat) : Prop := zev8 m ≤ 8 ∧ znb m ≤ 28 ∧ (∀ c, c < 8 → zof m c 0 ≤ 1 ∧ zof m c 1 ≤ 3 ∧ zof m c 2 ≤ 15 ∧ zof m c 3 ≤ 99 ∧ zof m c 4 ≤ 1) ∧ (∀ a b, a < 8 → b < 8 → zln m a b ≤ 99) ∧ (∀ a b, a < 4 → b < 4 → zbd m a b ≤ 1)
theorem zB_ev {m : Nat → Nat} (h : zB m) : zev8 m ≤ 8 := h.1
theorem zB_nb {m : Nat → Nat} (h : zB m) : znb m ≤ 28 := h.2.1
theorem zB_0 {m : Nat → Nat} (h : zB m) {c : Nat} (hc : c < 8) : zof m c 0 ≤ 1 := (h.2.2.1 c hc).1
theorem zB_1 {m : Nat → Nat} (h : zB m) {c : Nat} (hc : c < 8) : zof m c 1 ≤ 3 := (h.2.2.1 c hc).2.1
theorem zB_2 {m : Nat → Nat} (h : zB m) {c : Nat} (hc : c < 8) : zof m c 2 ≤ 15 := (h.2.2.1 c hc).2.2.1
theorem zB_3 {m : Nat → Nat} (h : zB m) {c : Nat} (hc : c < 8) : zof m c 3 ≤ 99 := (h.2.2.1 c hc).2.2.2.1
theorem zB_4 {m : Nat → Nat} (h : zB m) {c : Nat} (hc : c < 8) : zof m c 4 ≤ 1 := (h.2.2.1 c hc).2.2.2.2
theorem zB_l {m : Nat → Nat} (h : zB m) {a b : Nat} (ha : a < 8) (hb : b < 8) : zln m a b ≤ 99 := h.2.2.2.1 a b ha hb
theorem zB_b {m : Nat → Nat} (h : zB m) {a b : Nat} (ha : a < 4) (hb : b < 4) : zbd m a b ≤ 1 := h.2.2.2.2 a b ha hb
theorem zm_in (v a b : Int32) (h : zHp) : zM_0 [.inl v, .inl a, .inl b] h = some (some (nI (!decide (v < a) && !decide (b < v)).toNat), h) := by
  rw [ze_0]
  simp only [zci, zS_bo0, zS_bo1, if_true, decide_eq_true_eq]
  by_cases h1 : v < a
  · simp [h1]
  · by_cases h2 : b < v
    · simp [h1, h2]
    · simp [h1, h2]
/-- whether a number is a colour -/
def zcol (v : Int32) : Bool := !decide (v < nI 0) && !decide (nI 3 < v)
theorem zm_col (v : Int32) (h : zHp) : zM_1 [.inl v] h = some (some (nI (zcol v).toNat), h) := by
  rw [ze_1, zm_in]
  simp only [Option.bind_some, zpush]
  rw [zb_1_6, zS_bo]
  rfl
theorem zcol_nI {n : Nat} (hn : n < 2147483648) : zcol (nI n) = decide (n < 4) := by
  unfold zcol
  rw [decide_eq_false (show ¬ nI n < nI 0 from nI_pos hn)]
  simp only [zS_lt (show 3 < 2147483648 by omega) hn, Bool.not_false, Bool.true_and]
  by_cases h1 : n < 4
  · have h2 : ¬ 3 < n := by omega
    simp [h1, h2]
  · have h2 : 3 < n := by omega
    simp [h1, h2]
theorem zcol_of {v : Int32} (h : zcol v = true) : ∃ n, n < 4 ∧ v = nI n := by
  unfold zcol at h
  simp only [Bool.and_eq_true, Bool.not_eq_true', decide_eq_false_iff_not] at h
  obtain ⟨j, hj, rfl⟩ := nI_of (x := v) h.1
  refine ⟨j, ?_, rfl⟩
  have h2 := h.2
  rw [nI_ltI (by omega) (by omega)] at h2
  omega
theorem zm_of {h : zHp} {m : Nat → Nat} (hR : zR h m) {c w : Nat} (hk : 5 * c + w < 150) : zM_5 [.inr 76, .inl (nI c), .inl (nI w)] h = some (some (nI (zof m c w)), h) := by
  rw [ze_5, zS_mul, zS_add, zS_ib _ (by omega), decide_eq_true hk, zS_cl (by omega), hR _ hk]
  rfl
theorem zm_puts {h : zHp} {c w : Nat} (v : Int32) (hk : 5 * c + w < 150) : zM_3 [.inr 76, .inl (nI c), .inl (nI w), .inl v] h = some (none, zup h 77 (5 * c + w) v) := by
  rw [ze_3, zS_mul, zS_add, zS_ib _ (by omega), decide_eq_true hk, zS_cl (by omega)]
  rfl
theorem zm_len {h : zHp} {m : Nat → Nat} (hR : zR h m) {a b : Nat} (ha : a < 8) (hb : b < 8) : zM_8 [.inr 76, .inl (nI a), .inl (nI b)] h = some (some (nI (zln m a b)), h) := by
  have hk : 40 + 8 * a + b < 150 := by omega
  rw [ze_8, zS_mul, zS_add, zS_add, zS_ib _ (by omega), decide_eq_true hk, zS_cl (by omega), hR _ hk]
  rfl
theorem zm_bad {h : zHp} {m : Nat → Nat} (hR : zR h m) (hB : zB m) {a b : Nat} (ha : a < 4) (hb : b < 4) : zM_9 [.inr 76, .inl (nI a), .inl (nI b)] h = some (some (nI (decide (zbd m a b = 1)).toNat), h) := by
  have hk : 133 + 4 * a + b < 150 := by omega
  have h1 : zbd m a b ≤ 1 := zB_b hB ha hb
  rw [ze_9, zS_mul, zS_add, zS_add, zS_ib _ (by omega), decide_eq_true hk, zS_cl (by omega), hR _ hk]
  show (if (zci .ne (nI (zbd m a b)) (nI 1)) = true then _ else _) = _
  rw [zS_cne (by omega) (by omega), zS_bo0, zS_bo1]
  by_cases h2 : zbd m a b = 1 <;> simp [h2]
/-- whether a country is there, for any number -/
def zth (m : Nat → Nat) (c : Int32) : Bool := !decide (c < nI 0) && (decide (c.toNatClampNeg < zev8 m) && decide (zof m c.toNatClampNeg 0 = 1))
theorem zth_nI {m : Nat → Nat} {n : Nat} (hn : n < 2147483648) : zth m (nI n) = (decide (n < zev8 m) && decide (zof m n 0 = 1)) := by
  unfold zth
  rw [decide_eq_false (show ¬ nI n < nI 0 from nI_pos hn), zS_cl hn]
  rfl
theorem zth_of {m : Nat → Nat} {c : Int32} (h : zth m c = true) : ∃ n, n < zev8 m ∧ zof m n 0 = 1 ∧ c = nI n := by
  unfold zth at h
  simp only [Bool.and_eq_true, Bool.not_eq_true', decide_eq_false_iff_not, decide_eq_true_eq] at h
  obtain ⟨j, hj, rfl⟩ := nI_of (x := c) h.1
  rw [zS_cl (by omega)] at h
  exact ⟨j, h.2.1, h.2.2, rfl⟩
theorem zm_there {h : zHp} {m : Nat → Nat} (hR : zR h m) (hB : zB m) (c : Int32) : zM_6 [.inr 76, .inl c] h = some (some (nI (zth m c).toNat), h) := by
  have he := zB_ev hB
  rw [ze_6, zS_ib _ (by omega), zS_cl (by omega), hR _ (by omega), zm_in]
  show (if (decide (149 < 150)) = true then _ else _) = _
  rw [if_pos (by decide)]
  simp only [Option.bind_some, zpush]
  rw [zb_6_15, zS_b0]
  by_cases h1 : c < nI 0
  · simp [h1, zth, zS_bo0]
  · obtain ⟨j, hj, rfl⟩ := nI_of (x := c) h1
    have hj' : j < 2147483648 := hj
    rw [decide_eq_false h1]
    have h2 : (decide (nI (m 149) - nI 1 < nI j)) = !decide (j < zev8 m) := by
      unfold zev8
      by_cases h0 : m 149 = 0
      · rw [h0, show nI 0 - nI 1 = -1 by decide]
        have h3 : (-1 : Int32) < nI j := by
          rw [Int32.lt_iff_toInt_lt, nI_toInt hj]
          have : (-1 : Int32).toInt = -1 := by decide
          omega
        simp [h3]
      · unfold zev8 at he
        rw [zS_sub (by omega)]
        simp only [zS_lt (show m 149 - 1 < 2147483648 by omega) hj']
        by_cases h3 : j < m 149
        · have h4 : ¬ m 149 - 1 < j := by omega
          simp [h3, h4]
        · have h4 : m 149 - 1 < j := by omega
          simp [h3, h4]
    rw [h2, zth_nI hj']
    by_cases h3 : j < zev8 m
    · have h5 := zB_0 hB (show j < 8 by omega)
      simp only [h3, decide_true, Bool.not_true, Bool.not_false, Bool.and_true, Bool.true_and]
      rw [if_neg (by decide), zm_of hR (by omega)]
      simp only [Option.bind_some, zpush]
      rw [zb_6_24, zS_cne (by omega) (by omega), zS_bo0, zS_bo1]
      by_cases h6 : zof m j 0 = 1 <;> simp [h6]
    · simp [h3, zS_bo0]
theorem zm_no {h : zHp} {m : Nat → Nat} (hR : zR h m) (hB : zB m) (c : Int32) : zM_7 [.inr 76, .inl c] h = some (some (nI (!zth m c).toNat), h) := by
  rw [ze_7, zm_there hR hB]
  simp only [Option.bind_some, zpush]
  rw [zb_7_5, zS_b0n, zS_bo0, zS_bo1]
  cases zth m c <;> rfl
/-- whether a border is in conflict -/
def zcf (m : Nat → Nat) (a b : Nat) : Bool := decide (0 < zln m a b) && decide (zbd m (zof m a 1) (zof m b 1) = 1)
theorem zm_conf {h : zHp} {m : Nat → Nat} (hR : zR h m) (hB : zB m) {a b : Nat} (ha : a < 8) (hb : b < 8) : zM_10 [.inr 76, .inl (nI a), .inl (nI b)] h = some (some (nI (zcf m a b).toNat), h) := by
  have h1 := zB_l hB ha hb
  have h2 := zB_1 hB ha
  have h3 := zB_1 hB hb
  rw [ze_10, zm_len hR ha hb]
  simp only [Option.bind_some, zpush]
  rw [zb_10_6, zS_cle (by omega) (by omega), zS_bo0]
  unfold zcf
  by_cases h4 : 0 < zln m a b
  · have h5 : ¬ zln m a b ≤ 0 := by omega
    simp only [h4, h5, decide_true, decide_false, Bool.true_and]
    rw [if_neg (by decide), zm_of hR (by omega)]
    simp only [Option.bind_some, zpush]
    rw [zb_10_16, zm_of hR (by omega)]
    simp only [Option.bind_some, zpush]
    rw [zb_10_22, zm_bad hR hB (by omega) (by omega)]
    simp only [Option.bind_some, zpush]
    rw [zb_10_25, zS_b0, zS_bo0, zS_bo1]
    cases decide (zbd m (zof m a 1) (zof m b 1) = 1) <;> rfl
  · have h5 : zln m a b ≤ 0 := by omega
    simp [h4, h5]
/-- a sum of truths from k on, n of them -/
def zsum (f : Nat → Nat) : Nat → Nat → Nat
  | _, 0 => 0
  | k, n + 1 => f k + zsum f (k + 1) n
theorem zsum_le {f : Nat → Nat} {b : Nat} : ∀ (n k : Nat), (∀ j, k ≤ j → j < k + n → f j ≤ b) → zsum f k n ≤ b * n := by
  intro n
  induction n with
  | zero => intro k _; simp [zsum]
  | succ n ih =>
    intro k hf
    have h1 := hf k (by omega) (by omega)
    have h2 := ih (k + 1) (fun j a b => hf j (by omega) (by omega))
    simp only [zsum, Nat.mul_succ]
    omega
theorem zsum_congr {f g : Nat → Nat} : ∀ (n k : Nat), (∀ j, k ≤ j → j < k + n → f j = g j) → zsum f k n = zsum g k n := by
  intro n
  induction n with
  | zero => intro k _; rfl
  | succ n ih =>
    intro k hf
    simp only [zsum, hf k (by omega) (by omega), ih (k + 1) (fun j a b => hf j (by omega) (by omega))]
def zcnt (m : Nat → Nat) (c : Nat) : Nat := zsum (fun o => (zcf m c o).toNat) 0 (zev8 m)
theorem zm_cnt_loop {h : zHp} {m : Nat → Nat} (hR : zR h m) (hB : zB m) {c : Nat} (hc : c < 8) : ∀ (n o acc : Nat), o + n = zev8 m → acc + n ≤ 8 → zr_11 4 [some (.inr 76), some (.inl (nI c)), some (.inl (nI acc)), some (.inl (nI o))] [] h = some (some (nI (acc + zsum (fun o => (zcf m c o).toNat) o n)), h) := by
  have he := zB_ev hB
  intro n
  induction n with
  | zero =>
    intro o acc ho _
    rw [zb_11_4, zS_ib _ (by omega), zS_cl (by omega), hR _ (by omega), zS_cge (by omega) (by unfold zev8 at he; omega)]
    have h1 : m 149 ≤ o := by unfold zev8 at ho; omega
    simp [h1, zsum]
  | succ n ih =>
    intro o acc ho ha
    rw [zb_11_4, zS_ib _ (by omega), zS_cl (by omega), hR _ (by omega), zS_cge (by omega) (by unfold zev8 at he; omega)]
    have h1 : ¬ m 149 ≤ o := by unfold zev8 at ho; omega
    simp only [h1, decide_false, show decide (149 < 150) = true from rfl, if_true]
    rw [if_neg (by decide), zm_conf hR hB hc (by omega)]
    simp only [Option.bind_some, zpush]
    rw [zb_11_23, zS_b0, zS_add, zS_add, zS_add]
    cases hb : zcf m c o with
    | false =>
      have := ih (o + 1) (acc + 0) (by omega) (by omega)
      simp only [Bool.not_false, if_true]
      rw [this]
      simp [zsum, hb]
    | true =>
      have := ih (o + 1) (acc + 1) (by omega) (by omega)
      simp only [Bool.not_true]
      rw [if_neg (by decide), this]
      simp [zsum, hb, Nat.add_assoc]
theorem zm_cnt {h : zHp} {m : Nat → Nat} (hR : zR h m) (hB : zB m) {c : Nat} (hc : c < 8) : zM_11 [.inr 76, .inl (nI c)] h = some (some (nI (zcnt m c)), h) := by
  have he := zB_ev hB
  rw [ze_11, zm_cnt_loop hR hB hc (zev8 m) 0 0 (by omega) (by omega)]
  simp [zcnt]
theorem zcnt_le {m : Nat → Nat} (hB : zB m) (c : Nat) : zcnt m c ≤ 8 := by
  have he := zB_ev hB
  have := zsum_le (f := fun o => (zcf m c o).toNat) (b := 1) (zev8 m) 0 (fun j _ _ => by cases zcf m c j <;> simp)
  unfold zcnt
  omega
def zwr (m : Nat → Nat) (c : Nat) : Bool := !(zof m c 2).testBit (zof m c 1) || decide (0 < zcnt m c)
theorem zm_wrong {h : zHp} {m : Nat → Nat} (hR : zR h m) (hB : zB m) {c : Nat} (hc : c < 8) : zM_12 [.inr 76, .inl (nI c)] h = some (some (nI (zwr m c).toNat), h) := by
  have h1 := zB_1 hB hc
  have h2 := zB_2 hB hc
  have h3 := zcnt_le hB c
  rw [ze_12, zm_of hR (by omega)]
  simp only [Option.bind_some, zpush]
  rw [zb_12_6, zm_of hR (by omega)]
  simp only [Option.bind_some, zpush]
  rw [zb_12_12, zS_shr _ (by omega) _ (by omega), zS_and, zS_bit, zS_b0, zS_bo1]
  unfold zwr
  cases hb : (zof m c 2).testBit (zof m c 1) with
  | false => simp
  | true =>
    simp only [Bool.not_true, Bool.false_or]
    rw [if_neg (by decide), zm_cnt hR hB hc]
    simp only [Option.bind_some, zpush]
    rw [zb_12_23, zS_cle (by omega) (by omega), zS_bo0, zS_bo1]
    by_cases h4 : 0 < zcnt m c
    · have h5 : ¬ zcnt m c ≤ 0 := by omega
      simp [h4, h5]
    · have h5 : zcnt m c ≤ 0 := by omega
      simp [h4, h5]
