/-! The reference's sets and sums. -/
theorem zg149 : zib (nI 149) 150 = true := by decide
theorem zR_149 {h : zHp} {m : Nat → Nat} (hR : zR h m) : h 77 (nI 149).toNatClampNeg = nI (zev8 m) := by
  rw [zS_cl (by omega), hR _ (by omega)]
  rfl
theorem zg132 : zib (nI 132) 150 = true := by decide
theorem zR_132 {h : zHp} {m : Nat → Nat} (hR : zR h m) : h 77 (nI 132).toNatClampNeg = nI (znb m) := by
  rw [zS_cl (by omega), hR _ (by omega)]
  rfl
/-- the set, as bits, of those from k on, n of them, that are in p -/
def zset8 (p : Nat → Bool) : Nat → Nat → Nat
  | _, 0 => 0
  | k, n + 1 => (if p k = true then 2 ^ k else 0) ||| zset8 p (k + 1) n
theorem zset8_bit (p : Nat → Bool) : ∀ (n k j : Nat), (zset8 p k n).testBit j = (decide (k ≤ j) && decide (j < k + n) && p j) := by
  intro n
  induction n with
  | zero =>
    intro k j
    simp only [zset8, Nat.zero_testBit, Nat.add_zero]
    by_cases h : k ≤ j
    · have h2 : ¬ j < k := by omega
      simp [h2]
    · simp [h]
  | succ n ih =>
    intro k j
    simp only [zset8, Nat.testBit_or, ih]
    have h0 : (if p k = true then 2 ^ k else 0).testBit j = (decide (j = k) && p j) := by
      cases hp : p k with
      | true =>
        simp only [if_true, Nat.testBit_two_pow]
        by_cases h : j = k
        · subst h; simp [hp]
        · simp [h, Ne.symm h]
      | false =>
        by_cases h : j = k
        · subst h; simp [hp]
        · simp [h]
    rw [h0]
    by_cases h1 : j = k
    · subst h1
      simp
    · by_cases h2 : k ≤ j
      · have h3 : k + 1 ≤ j := by omega
        by_cases h4 : j < k + (n + 1)
        · have h5 : j < k + 1 + n := by omega
          simp [h1, h2, h3, h4, h5]
        · have h5 : ¬ j < k + 1 + n := by omega
          simp [h1, h4, h5]
      · have h3 : ¬ k + 1 ≤ j := by omega
        simp [h1, h2, h3]
theorem zset8_lt (p : Nat → Bool) {n : Nat} (hn : n ≤ 8) : zset8 p 0 n < 256 := by
  apply Nat.lt_pow_two_of_testBit (n := 8)
  intro i hi
  rw [zset8_bit]
  have h1 : ¬ i < n := by omega
  simp [h1]
theorem zset8_congr {p q : Nat → Bool} {n n' : Nat} (h : ∀ j, (decide (j < n) && p j) = (decide (j < n') && q j)) : zset8 p 0 n = zset8 q 0 n' := by
  apply Nat.eq_of_testBit_eq
  intro j
  have h1 := h j
  simp only [zset8_bit, Nat.zero_add, Nat.zero_le, decide_true, Bool.true_and]
  exact h1
/-- whether country n is there -/
def zt (m : Nat → Nat) (c : Nat) : Bool := decide (c < zev8 m) && decide (zof m c 0 = 1)
theorem zm_there_n {h : zHp} {m : Nat → Nat} (hR : zR h m) (hB : zB m) {c : Nat} (hc : c < 2147483648) : zM_6 [.inr 76, .inl (nI c)] h = some (some (nI (zt m c).toNat), h) := by
  rw [zm_there hR hB, zth_nI hc]
  rfl
def zwrs (m : Nat → Nat) : Nat := zset8 (fun c => zt m c && zwr m c) 0 (zev8 m)
theorem zm_wrs_loop {h : zHp} {m : Nat → Nat} (hR : zR h m) (hB : zB m) : ∀ (n o acc : Nat), o + n = zev8 m → zr_13 4 [some (.inr 76), some (.inl (nI acc)), some (.inl (nI o))] [] h = some (some (nI (acc ||| zset8 (fun c => zt m c && zwr m c) o n)), h) := by
  have he := zB_ev hB
  intro n
  induction n with
  | zero =>
    intro o acc ho
    rw [zb_13_4, zg149, zR_149 hR, zS_cge (by omega) (by omega), if_pos rfl, decide_eq_true (by omega), if_pos rfl]
    simp [zset8]
  | succ n ih =>
    intro o acc ho
    rw [zb_13_4, zg149, zR_149 hR, zS_cge (by omega) (by omega), if_pos rfl, decide_eq_false (by omega), if_neg (by decide), zm_there_n hR hB (by omega)]
    simp only [Option.bind_some, zpush]
    rw [zb_13_22, zS_b0, zS_or, zS_add]
    cases h1 : zt m o with
    | false =>
      rw [if_pos (by decide), ih (o + 1) _ (by omega)]
      simp [zset8, h1]
    | true =>
      rw [if_neg (by decide), zm_wrong hR hB (by omega)]
      simp only [Option.bind_some, zpush]
      rw [zb_13_30, zS_b0, zS_or, zS_add, zS_shl1 _ (by omega), zS_or]
      cases h2 : zwr m o with
      | false =>
        rw [if_pos (by decide), ih (o + 1) _ (by omega)]
        simp [zset8, h1, h2]
      | true =>
        rw [if_neg (by decide), ih (o + 1) _ (by omega)]
        simp [zset8, h1, h2, Nat.or_assoc]
theorem zm_wrs {h : zHp} {m : Nat → Nat} (hR : zR h m) (hB : zB m) : zM_13 [.inr 76] h = some (some (nI (zwrs m)), h) := by
  rw [ze_13, zm_wrs_loop hR hB (zev8 m) 0 0 (by omega)]
  simp [zwrs]
/-- the countries that are there (0) or fixed (1) -/
def zst (m : Nat → Nat) (w : Nat) : Nat := zset8 (fun c => zt m c && (decide (w = 0) || decide (zof m c 4 = 1))) 0 (zev8 m)
theorem zm_set_loop {h : zHp} {m : Nat → Nat} (hR : zR h m) (hB : zB m) {w : Nat} (hw : w < 2) : ∀ (n o acc : Nat), o + n = zev8 m → zr_16 4 [some (.inr 76), some (.inl (nI w)), some (.inl (nI acc)), some (.inl (nI o))] [] h = some (some (nI (acc ||| zset8 (fun c => zt m c && (decide (w = 0) || decide (zof m c 4 = 1))) o n)), h) := by
  have he := zB_ev hB
  intro n
  induction n with
  | zero =>
    intro o acc ho
    rw [zb_16_4, zg149, zR_149 hR, zS_cge (by omega) (by omega), if_pos rfl, decide_eq_true (by omega), if_pos rfl]
    simp [zset8]
  | succ n ih =>
    intro o acc ho
    rw [zb_16_4, zg149, zR_149 hR, zS_cge (by omega) (by omega), if_pos rfl, decide_eq_false (by omega), if_neg (by decide), zm_there_n hR hB (by omega)]
    simp only [Option.bind_some, zpush]
    rw [zb_16_22, zS_b0, zS_or, zS_add, zS_ceq (by omega) (by omega), zS_shl1 _ (by omega), zS_or]
    cases h1 : zt m o with
    | false =>
      rw [if_pos (by decide), ih (o + 1) _ (by omega)]
      simp [zset8, h1]
    | true =>
      rw [if_neg (by decide)]
      by_cases h2 : w = 0
      · rw [decide_eq_true h2, if_pos rfl, ih (o + 1) _ (by omega)]
        simp [zset8, h1, h2, Nat.or_assoc]
      · have h4 := zB_4 hB (show o < 8 by omega)
        rw [decide_eq_false h2, if_neg (by decide), zm_of hR (by omega)]
        simp only [Option.bind_some, zpush]
        rw [zb_16_35, zS_cne (by omega) (by omega), zS_or, zS_add, zS_shl1 _ (by omega), zS_or]
        by_cases h3 : zof m o 4 = 1
        · rw [decide_eq_true h3, if_neg (by decide), ih (o + 1) _ (by omega)]
          simp [zset8, h1, h2, h3, Nat.or_assoc]
        · rw [decide_eq_false h3, if_pos (by decide), ih (o + 1) _ (by omega)]
          simp [zset8, h1, h2, h3]
theorem zm_set {h : zHp} {m : Nat → Nat} (hR : zR h m) (hB : zB m) {w : Nat} (hw : w < 2) : zM_16 [.inr 76, .inl (nI w)] h = some (some (nI (zst m w)), h) := by
  rw [ze_16, zm_set_loop hR hB hw (zev8 m) 0 0 (by omega)]
  simp [zst]
/-- how many bits a set has -/
def zbits (x : Nat) : Nat := zsum (fun k => (x.testBit k).toNat) 0 8
theorem zbits_le (x : Nat) : zbits x ≤ 8 := by
  have := zsum_le (f := fun k => (x.testBit k).toNat) (b := 1) 8 0 (fun j _ _ => by cases x.testBit j <;> simp)
  unfold zbits
  omega
theorem zm_bits_loop {h : zHp} {x : Nat} (hx : x < 256) : ∀ (n k acc : Nat), k + n = 8 → acc + n ≤ 8 → zr_17 4 [some (.inl (nI x)), some (.inl (nI acc)), some (.inl (nI k))] [] h = some (some (nI (acc + zsum (fun k => (x.testBit k).toNat) k n)), h) := by
  intro n
  induction n with
  | zero =>
    intro k acc hk _
    rw [zb_17_4, zS_cge (by omega) (by omega), decide_eq_true (by omega), if_pos rfl]
    simp [zsum]
  | succ n ih =>
    intro k acc hk ha
    have hb : (x.testBit k).toNat ≤ 1 := by cases x.testBit k <;> simp
    rw [zb_17_4, zS_cge (by omega) (by omega), decide_eq_false (by omega), if_neg (by decide), zS_shr x hx k (by omega), zS_and, zS_bit, zS_add, zS_add, ih (k + 1) _ (by omega) (by omega)]
    simp only [zsum, Nat.add_assoc]
theorem zm_bits (h : zHp) {x : Nat} (hx : x < 256) : zM_17 [.inl (nI x)] h = some (some (nI (zbits x)), h) := by
  rw [ze_17, zm_bits_loop hx 8 0 0 (by omega) (by omega)]
  simp [zbits]
/-- the neighbours of a country -/
def znbs (m : Nat → Nat) (c : Nat) : Nat := zset8 (fun o => decide (0 < zln m c o)) 0 (zev8 m)
theorem zm_nbs_loop {h : zHp} {m : Nat → Nat} (hR : zR h m) (hB : zB m) {c : Nat} (hc : c < 8) : ∀ (n o acc : Nat), o + n = zev8 m → zr_29 4 [some (.inr 76), some (.inl (nI c)), some (.inl (nI acc)), some (.inl (nI o))] [] h = some (some (nI (acc ||| zset8 (fun o => decide (0 < zln m c o)) o n)), h) := by
  have he := zB_ev hB
  intro n
  induction n with
  | zero =>
    intro o acc ho
    rw [zb_29_4, zg149, zR_149 hR, zS_cge (by omega) (by omega), if_pos rfl, decide_eq_true (by omega), if_pos rfl]
    simp [zset8]
  | succ n ih =>
    intro o acc ho
    have hl := zB_l hB hc (show o < 8 by omega)
    rw [zb_29_4, zg149, zR_149 hR, zS_cge (by omega) (by omega), if_pos rfl, decide_eq_false (by omega), if_neg (by decide), zm_len hR hc (by omega)]
    simp only [Option.bind_some, zpush]
    rw [zb_29_23, zS_cle (by omega) (by omega), zS_or, zS_add, zS_shl1 _ (by omega), zS_or]
    by_cases h1 : 0 < zln m c o
    · rw [decide_eq_false (by omega), if_neg (by decide), ih (o + 1) _ (by omega)]
      simp [zset8, h1, Nat.or_assoc]
    · rw [decide_eq_true (by omega), if_pos rfl, ih (o + 1) _ (by omega)]
      simp [zset8, h1]
theorem zm_nbs {h : zHp} {m : Nat → Nat} (hR : zR h m) (hB : zB m) {c : Nat} (hc : c < 8) : zM_29 [.inr 76, .inl (nI c)] h = some (some (nI (znbs m c)), h) := by
  rw [ze_29, zm_nbs_loop hR hB hc (zev8 m) 0 0 (by omega)]
  simp [znbs]
/-- the length of a country's borders together -/
def zlns (m : Nat → Nat) (c : Nat) : Nat := zsum (fun o => zln m c o) 0 (zev8 m)
theorem zm_lns_loop {h : zHp} {m : Nat → Nat} (hR : zR h m) (hB : zB m) {c : Nat} (hc : c < 8) : ∀ (n o acc : Nat), o + n = zev8 m → zr_45 4 [some (.inr 76), some (.inl (nI c)), some (.inl (nI acc)), some (.inl (nI o))] [] h = some (some (nI (acc + zsum (fun o => zln m c o) o n)), h) := by
  have he := zB_ev hB
  intro n
  induction n with
  | zero =>
    intro o acc ho
    rw [zb_45_4, zg149, zR_149 hR, zS_cge (by omega) (by omega), if_pos rfl, decide_eq_true (by omega), if_pos rfl]
    simp [zsum]
  | succ n ih =>
    intro o acc ho
    rw [zb_45_4, zg149, zR_149 hR, zS_cge (by omega) (by omega), if_pos rfl, decide_eq_false (by omega), if_neg (by decide), zm_len hR hc (by omega)]
    simp only [Option.bind_some, zpush]
    rw [zb_45_23, zS_add, zS_add, ih (o + 1) _ (by omega)]
    simp only [zsum, Nat.add_assoc]
theorem zm_lns {h : zHp} {m : Nat → Nat} (hR : zR h m) (hB : zB m) {c : Nat} (hc : c < 8) : zM_45 [.inr 76, .inl (nI c)] h = some (some (nI (zlns m c)), h) := by
  rw [ze_45, zm_lns_loop hR hB hc (zev8 m) 0 0 (by omega)]
  simp [zlns]
/-- what a border adds to the sum over all borders -/
def zovf (m : Nat → Nat) (w a b : Nat) : Nat := if w = 2 then zln m a b else if zcf m a b = true then (if w = 1 then zln m a b else 1) else 0
def zov (m : Nat → Nat) (w : Nat) : Nat := zsum (fun c => zsum (fun o => zovf m w c o) 0 c) 0 (zev8 m)
theorem zm_ov_in {h : zHp} {m : Nat → Nat} (hR : zR h m) (hB : zB m) {w c : Nat} (hw : w < 3) (hc : c < 8) : ∀ (n o acc : Nat) (d5 : Option zV), o + n = c → ∃ (e5 : Option zV) (d4 : Int32), zr_19 19 [some (.inr 76), some (.inl (nI w)), some (.inl (nI acc)), some (.inl (nI c)), some (.inl (nI o)), d5] [] h = zr_19 4 [some (.inr 76), some (.inl (nI w)), some (.inl (nI (acc + zsum (fun o => zovf m w c o) o n))), some (.inl (nI (c + 1))), some (.inl d4), e5] [] h := by
  intro n
  induction n with
  | zero =>
    intro o acc d5 ho
    refine ⟨d5, nI o, ?_⟩
    rw [zb_19_19, zS_cge (by omega) (by omega), decide_eq_true (by omega), if_pos rfl, zS_add]
    simp [zsum]
  | succ n ih =>
    intro o acc d5 ho
    have hl := zB_l hB hc (show o < 8 by omega)
    rw [zb_19_19, zS_cge (by omega) (by omega), decide_eq_false (by omega), if_neg (by decide), zm_len hR hc (by omega)]
    simp only [Option.bind_some, zpush]
    rw [zb_19_32, zS_cne (by omega) (by omega), zS_add, zS_add]
    by_cases h2 : w = 2
    · rw [decide_eq_true h2, if_neg (by decide)]
      obtain ⟨e5, d4, h3⟩ := ih (o + 1) (acc + zln m c o) (some (.inl (nI (zln m c o)))) (by omega)
      refine ⟨e5, d4, ?_⟩
      rw [h3]
      simp [zsum, zovf, h2, Nat.add_assoc]
    · rw [decide_eq_false h2, if_pos (by decide), zm_conf hR hB hc (by omega)]
      simp only [Option.bind_some, zpush]
      rw [zb_19_52, zS_b0n, zS_cne (by omega) (by omega), zS_add, zS_add, zS_add, zS_add]
      cases h4 : zcf m c o with
      | false =>
        rw [if_neg (by decide)]
        obtain ⟨e5, d4, h3⟩ := ih (o + 1) (acc + 0) (some (.inl (nI (zln m c o)))) (by omega)
        refine ⟨e5, d4, ?_⟩
        rw [h3]
        simp [zsum, zovf, h2, h4]
      | true =>
        rw [if_pos rfl]
        by_cases h5 : w = 1
        · rw [decide_eq_true h5, if_neg (by decide)]
          obtain ⟨e5, d4, h3⟩ := ih (o + 1) (acc + zln m c o) (some (.inl (nI (zln m c o)))) (by omega)
          refine ⟨e5, d4, ?_⟩
          rw [h3]
          simp [zsum, zovf, h5, h4, Nat.add_assoc]
        · rw [decide_eq_false h5, if_pos (by decide)]
          obtain ⟨e5, d4, h3⟩ := ih (o + 1) (acc + 1) (some (.inl (nI (zln m c o)))) (by omega)
          refine ⟨e5, d4, ?_⟩
          rw [h3]
          simp [zsum, zovf, h2, h5, h4, Nat.add_assoc]
theorem zm_ov_loop {h : zHp} {m : Nat → Nat} (hR : zR h m) (hB : zB m) {w : Nat} (hw : w < 3) : ∀ (n c acc : Nat) (d4 d5 : Option zV), c + n = zev8 m → zr_19 4 [some (.inr 76), some (.inl (nI w)), some (.inl (nI acc)), some (.inl (nI c)), d4, d5] [] h = some (some (nI (acc + zsum (fun c => zsum (fun o => zovf m w c o) 0 c) c n)), h) := by
  have he := zB_ev hB
  intro n
  induction n with
  | zero =>
    intro c acc d4 d5 hc
    rw [zb_19_4, zg149, zR_149 hR, zS_cge (by omega) (by omega), if_pos rfl, decide_eq_true (by omega), if_pos rfl]
    simp [zsum]
  | succ n ih =>
    intro c acc d4 d5 hc
    rw [zb_19_4, zg149, zR_149 hR, zS_cge (by omega) (by omega), if_pos rfl, decide_eq_false (by omega), if_neg (by decide)]
    obtain ⟨e5, e4, h3⟩ := zm_ov_in hR hB hw (show c < 8 by omega) c 0 acc d5 (by omega)
    rw [h3, ih (c + 1) _ _ _ (by omega)]
    simp only [zsum, Nat.add_assoc]
theorem zm_ov {h : zHp} {m : Nat → Nat} (hR : zR h m) (hB : zB m) {w : Nat} (hw : w < 3) : zM_19 [.inr 76, .inl (nI w)] h = some (some (nI (zov m w)), h) := by
  rw [ze_19, zm_ov_loop hR hB hw (zev8 m) 0 0 _ _ (by omega)]
  simp [zov]
/-- the code of a border -/
def zcd (a b : Nat) : Nat := if a < b then 10 * a + b else 10 * b + a
theorem zm_code (h : zHp) {a b : Nat} (ha : a < 8) (hb : b < 8) : zM_21 [.inl (nI a), .inl (nI b)] h = some (some (nI (zcd a b)), h) := by
  rw [ze_21, zS_cge (by omega) (by omega), zS_mul, zS_add, zS_mul, zS_add]
  unfold zcd
  by_cases h1 : a < b
  · rw [decide_eq_false (by omega), if_neg (by decide), if_pos h1]
  · rw [decide_eq_true (by omega), if_pos rfl, if_neg h1]
