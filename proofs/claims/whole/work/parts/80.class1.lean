/-! The class's state over the row m: its base at p. -/
def zfbs (m : Nat → Nat) (a : Nat) : Nat := zset8 (fun b => decide (zbd m a b = 1)) 0 4
def zSr (h : zHp) (p : Nat) (m : Nat → Nat) : Prop := (h p 0 = nI (zev8 m) ∧ h p 1 = nI (zst m 0) ∧ h p 2 = nI (zst m 1)) ∧ (∀ c, c < 8 → zt m c = true → h (p + 1) c = nI (zof m c 1) ∧ h (p + 2) c = nI (zof m c 2) ∧ h (p + 3) c = nI (zof m c 3)) ∧ (∀ a, a < 4 → h (p + 4) a = nI (zfbs m a)) ∧ h (p + 5) 0 = nI (znb m) ∧ (∀ k, k < znb m → h (p + 6) k = nI (zod m k / 10) ∧ h (p + 7) k = nI (zod m k % 10) ∧ h (p + 8) k = nI (zln m (zod m k / 10) (zod m k % 10)))
theorem zn_col (v : Int32) (h : zHp) : zM_62 [.inl v] h = some (some (nI (zcol v).toNat), h) := by
  rw [ze_62, zS_bo0, zS_bo1, if_pos rfl, if_pos rfl]
  unfold zcol
  by_cases h1 : v < nI 0
  · have e : zci .lt v (nI 0) = true := decide_eq_true h1
    rw [e, if_pos rfl, decide_eq_true h1]
    rfl
  · have e : zci .lt v (nI 0) = false := decide_eq_false h1
    obtain ⟨k, hk, rfl⟩ := nI_of (x := v) h1
    rw [e, if_neg (by decide), zS_cge hk (by omega), decide_eq_false h1, decide_eq_decide.mpr (nI_ltI (show 3 < 2147483648 by omega) hk)]
    by_cases h2 : 4 ≤ k
    · rw [decide_eq_true h2, decide_eq_true (show 3 < k by omega)]
      rfl
    · rw [decide_eq_false h2, decide_eq_false (show ¬ 3 < k by omega)]
      rfl
def znum (v : Int32) : Bool := !decide (v < nI 0) && decide (v.toNatClampNeg < 8)
theorem zn_num (v : Int32) (h : zHp) : zM_66 [.inl v] h = some (some (nI (znum v).toNat), h) := by
  rw [ze_66, zS_bo0, zS_bo1, if_pos rfl, if_pos rfl]
  unfold znum
  by_cases h1 : v < nI 0
  · have e : zci .lt v (nI 0) = true := decide_eq_true h1
    rw [e, if_pos rfl, decide_eq_true h1]
    rfl
  · have e : zci .lt v (nI 0) = false := decide_eq_false h1
    obtain ⟨k, hk, rfl⟩ := nI_of (x := v) h1
    rw [e, if_neg (by decide), zS_cge hk (by omega), decide_eq_false h1, zS_cl hk]
    by_cases h2 : 8 ≤ k
    · rw [decide_eq_true h2, decide_eq_false (show ¬ k < 8 by omega)]
      rfl
    · rw [decide_eq_false h2, decide_eq_true (show k < 8 by omega)]
      rfl
theorem zn_has (h : zHp) {S o : Nat} (hS : S < 256) (ho : o < 8) : zM_69 [.inl (nI S), .inl (nI o)] h = some (some (nI (S.testBit o).toNat), h) := by
  rw [ze_69, zS_sbit1 hS ho, zS_bo0, zS_bo1]
  cases S.testBit o <;> rfl
theorem zst_bit {m : Nat → Nat} {o : Nat} : (zst m 0).testBit o = zt m o := by
  unfold zst
  rw [zset8_bit]
  cases h : zt m o with
  | false => simp
  | true => simp [zt_lt h]
theorem zst1_bit {m : Nat → Nat} {o : Nat} : (zst m 1).testBit o = (zt m o && decide (zof m o 4 = 1)) := by
  unfold zst
  rw [zset8_bit]
  cases h : zt m o with
  | false => simp
  | true => simp [zt_lt h]
theorem zth_num {m : Nat → Nat} (hB : zB m) (c : Int32) : zth m c = (znum c && zt m c.toNatClampNeg) := by
  have he := zB_ev hB
  by_cases h1 : c < nI 0
  · unfold zth znum
    rw [decide_eq_true h1]
    rfl
  · obtain ⟨k, hk, rfl⟩ := nI_of (x := c) h1
    rw [zth_nI hk, zS_cl hk]
    unfold znum zt
    rw [decide_eq_false h1, zS_cl hk]
    by_cases h2 : k < zev8 m
    · rw [decide_eq_true h2, decide_eq_true (show k < 8 by omega)]
      rfl
    · rw [decide_eq_false h2]
      simp
theorem zn_there {h : zHp} {m : Nat → Nat} (hS : zSr h 1 m) (hB : zB m) (c : Int32) : zM_70 [.inr 1, .inl c] h = some (some (nI (zth m c).toNat), h) := by
  have he := zB_ev hB
  rw [ze_70_t1, zn_num]
  simp only [Option.bind_some, zpush]
  rw [zb_70_4, zS_b0, zS_bo0, zth_num hB, hS.1.2.1]
  cases h1 : znum c with
  | false => rfl
  | true =>
    unfold znum at h1
    simp only [Bool.and_eq_true, Bool.not_eq_true', decide_eq_false_iff_not, decide_eq_true_eq] at h1
    obtain ⟨k, hk, rfl⟩ := nI_of (x := c) h1.1
    rw [zS_cl hk] at h1 ⊢
    rw [if_neg (by decide), zn_has h (zst_lt he 0) h1.2, zst_bit]
    simp only [Option.bind_some, zpush]
    rw [zb_70_15, zS_b0, zS_bo0, zS_bo1]
    cases zt m k <;> rfl
theorem zn_fixed {h : zHp} {m : Nat → Nat} (hS : zSr h 1 m) (hB : zB m) {c : Nat} (hc : c < 8) (ht : zt m c = true) : zM_71 [.inr 1, .inl (nI c)] h = some (some (nI (decide (zof m c 4 = 1)).toNat), h) := by
  rw [ze_71_t1, hS.1.2.2, zn_has h (zst_lt (zB_ev hB) 1) hc, zst1_bit, ht, Bool.true_and]
  simp only [Option.bind_some, zpush]
  rw [zb_71_8, zS_bo, if_pos rfl]
theorem zfbs_bit {m : Nat → Nat} {a b : Nat} (hb : b < 4) : (zfbs m a).testBit b = decide (zbd m a b = 1) := by
  unfold zfbs
  rw [zset8_bit]
  simp [hb]
theorem zfbs_lt (m : Nat → Nat) (a : Nat) : zfbs m a < 256 := zset8_lt _ (by omega)
theorem zn_pair {h : zHp} {m : Nat → Nat} (hS : zSr h 1 m) {a b : Nat} (ha : a < 4) (hb : b < 4) : zM_73 [.inr 1, .inl (nI a), .inl (nI b)] h = some (some (nI (decide (zbd m a b = 1)).toNat), h) := by
  have h5 : h 5 a = nI (zfbs m a) := hS.2.2.1 a ha
  rw [ze_73, zS_ib _ (by omega), decide_eq_true ha, if_pos rfl, zS_cl (by omega), h5, zn_has h (zfbs_lt m a) (by omega), zfbs_bit hb]
  simp only [Option.bind_some, zpush]
  rw [zb_73_10, zS_bo, if_pos rfl]
/-- the place of a border in the order, or how many there are -/
def zplc (m : Nat → Nat) (c : Nat) : Nat → Nat → Nat
  | k, 0 => k
  | k, n + 1 => if zod m k = c then k else zplc m c (k + 1) n
theorem zmin_nI {a b : Nat} (ha : a < 8) (hb : b < 8) : zmin (nI a) (nI b) = nI (if a < b then a else b) := by
  have h1 : ∀ a, a < 8 → ∀ b, b < 8 → zmin (nI a) (nI b) = nI (if a < b then a else b) := by decide +kernel
  exact h1 a ha b hb
theorem zmax_nI {a b : Nat} (ha : a < 8) (hb : b < 8) : zmax (nI a) (nI b) = nI (if a < b then b else a) := by
  have h1 : ∀ a, a < 8 → ∀ b, b < 8 → zmax (nI a) (nI b) = nI (if a < b then b else a) := by decide +kernel
  exact h1 a ha b hb
theorem zn_plc1 {h : zHp} {m : Nat → Nat} (hS : zSr h 1 m) (hI : zI m) {lo hi : Nat} (h1 : lo < 8) (h2 : hi < 8) (d1 d2 : Option zV) : ∀ (n k : Nat), k + n = znb m → zr_85 16 [some (.inr 6), d1, d2, some (.inl (nI lo)), some (.inl (nI hi)), some (.inl (nI k))] [] h = some (some (nI (zplc m (10 * lo + hi) k n)), h) := by
  have hn := zB_nb hI.1
  have h6 : h 6 0 = nI (znb m) := hS.2.2.2.1
  intro n
  induction n with
  | zero =>
    intro k hk
    rw [zb_85_16, h6, zS_cge (by omega) (by omega), decide_eq_true (by omega), if_pos rfl]
    rfl
  | succ n ih =>
    intro k hk
    obtain ⟨q1, q2, q3⟩ := hS.2.2.2.2 k (by omega)
    obtain ⟨l, g, p1, p2, p3, p4⟩ := hI.2.2.2.2.2.2.2.1 k (by omega)
    have q1 : h 7 k = nI (zod m k / 10) := q1
    have q2 : h 8 k = nI (zod m k % 10) := q2
    rw [zb_85_16, h6, zS_cge (by omega) (by omega), decide_eq_false (by omega), if_neg (by decide), zS_ib _ (by omega), decide_eq_true (by omega), if_pos rfl, if_pos rfl, zS_cl (by omega), q1, q2, zS_cne (by omega) (by omega), zS_ceq (by omega) (by omega), zS_add]
    unfold zplc
    by_cases h3 : zod m k / 10 = lo
    · rw [decide_eq_true h3, if_neg (by decide)]
      by_cases h4 : zod m k % 10 = hi
      · rw [decide_eq_true h4, if_pos rfl, if_pos (by omega)]
      · rw [decide_eq_false h4, if_neg (by decide), if_neg (by omega)]
        exact ih (k + 1) (by omega)
    · rw [decide_eq_false h3, if_pos (by decide), if_neg (by omega)]
      exact ih (k + 1) (by omega)
theorem zn_plc {h : zHp} {m : Nat → Nat} (hS : zSr h 1 m) (hI : zI m) {a b : Nat} (ha : a < 8) (hb : b < 8) (hab : a ≠ b) : zM_85 [.inr 6, .inl (nI a), .inl (nI b)] h = some (some (nI (zplc m (zcd a b) 0 (znb m))), h) := by
  rw [ze_85, zmin_nI ha hb, zmax_nI ha hb]
  unfold zcd
  by_cases h1 : a < b
  · rw [if_pos h1, if_pos h1, if_pos h1]
    exact zn_plc1 hS hI ha hb _ _ (znb m) 0 (by omega)
  · rw [if_neg h1, if_neg h1, if_neg h1]
    exact zn_plc1 hS hI hb ha _ _ (znb m) 0 (by omega)
theorem zplc_of {m : Nat → Nat} {c p : Nat} (hp : zod m p = c) : ∀ (n k : Nat), k ≤ p → p < k + n → (∀ j, k ≤ j → j < p → zod m j ≠ c) → zplc m c k n = p := by
  intro n
  induction n with
  | zero => intro k h1 h2; omega
  | succ n ih =>
    intro k h1 h2 h3
    unfold zplc
    by_cases hk : k = p
    · subst hk
      rw [if_pos hp]
    · rw [if_neg (h3 k (Nat.le_refl _) (by omega))]
      exact ih (k + 1) (by omega) (by omega) (fun j a b => h3 j (by omega) b)
theorem zplc_no {m : Nat → Nat} {c : Nat} : ∀ (n k : Nat), (∀ j, k ≤ j → j < k + n → zod m j ≠ c) → zplc m c k n = k + n := by
  intro n
  induction n with
  | zero => intro k _; rfl
  | succ n ih =>
    intro k h
    unfold zplc
    rw [if_neg (h k (Nat.le_refl _) (by omega)), ih (k + 1) (fun j a b => h j (by omega) (by omega))]
    omega
/-- the place says whether there is such a border, and which -/
theorem zplc_I {m : Nat → Nat} (hI : zI m) {a b : Nat} (ha : a < 8) (hb : b < 8) (hab : a ≠ b) : (zln m a b = 0 ∧ zplc m (zcd a b) 0 (znb m) = znb m) ∨ (0 < zln m a b ∧ zplc m (zcd a b) 0 (znb m) < znb m ∧ zod m (zplc m (zcd a b) 0 (znb m)) = zcd a b ∧ zfind m (zcd a b) 0 28 = zplc m (zcd a b) 0 (znb m)) := by
  have hn := zB_nb hI.1
  obtain ⟨hB, i1, i2, i3, i4, i5, i6, o1, o2, o3⟩ := id hI
  obtain ⟨lo0, hi0, c1, c2, c3, c4⟩ := zcd_lh ha hb hab
  have hsym : zln m lo0 hi0 = zln m a b := by
    rcases c4 with ⟨rfl, rfl⟩ | ⟨rfl, rfl⟩
    · rfl
    · exact i3 _ _ (by omega) (by omega)
  rcases Nat.eq_zero_or_pos (zln m a b) with h0 | h0
  · left
    refine ⟨h0, ?_⟩
    rw [zplc_no (znb m) 0 (fun j _ hj he => ?_)]
    · omega
    · obtain ⟨lo, hi, p1, p2, p3, p4⟩ := o1 j (by omega)
      rw [p3] at he
      rcases (zcd_eq ha hb hab p1 p2).mp he.symm with ⟨rfl, rfl⟩ | ⟨rfl, rfl⟩
      · omega
      · rw [i3 _ _ (by omega) (by omega)] at p4
        omega
  · right
    obtain ⟨p, hp1, hp2⟩ := o3 lo0 hi0 c1 c2 (by omega)
    have hne : ∀ j, j < p → zod m j ≠ zcd a b := fun j hj he => by
      have := o2 j p (by omega) hp1 (by rw [he, hp2, c3])
      omega
    have e1 : zplc m (zcd a b) 0 (znb m) = p := zplc_of (by rw [hp2, c3]) (znb m) 0 (by omega) (by omega) (fun j _ hj => hne j hj)
    have e2 : zfind m (zcd a b) 0 28 = p := zfind_eq (by rw [hp2, c3]) 28 0 (by omega) (by omega) (fun j _ hj => hne j hj)
    rw [e1, e2]
    exact ⟨h0, hp1, by rw [hp2, c3], rfl⟩
theorem zn_len {h : zHp} {m : Nat → Nat} (hS : zSr h 1 m) (hI : zI m) {a b : Nat} (ha : a < 8) (hb : b < 8) (hab : a ≠ b) : zM_86 [.inr 6, .inl (nI a), .inl (nI b)] h = some (some (nI (zln m a b)), h) := by
  have hn := zB_nb hI.1
  have h6 : h 6 0 = nI (znb m) := hS.2.2.2.1
  rw [ze_86, zn_plc hS hI ha hb hab]
  simp only [Option.bind_some, zpush]
  rcases zplc_I hI ha hb hab with ⟨h0, h1⟩ | ⟨h0, h1, h2, h3⟩
  · rw [h1, zb_86_6, h6, zS_cge (by omega) (by omega), decide_eq_true (by omega), if_pos rfl, h0]
  · obtain ⟨q1, q2, q3⟩ := hS.2.2.2.2 _ h1
    have q3 : h 9 (zplc m (zcd a b) 0 (znb m)) = _ := q3
    rw [zb_86_6, h6, zS_cge (by omega) (by omega), decide_eq_false (by omega), if_neg (by decide), zS_ib _ (by omega), decide_eq_true (by omega), if_pos rfl, zS_cl (by omega), q3, h2]
    obtain ⟨lo0, hi0, c1, c2, c3, c4⟩ := zcd_lh ha hb hab
    rw [c3, show (10 * lo0 + hi0) / 10 = lo0 by omega, show (10 * lo0 + hi0) % 10 = hi0 by omega]
    rcases c4 with ⟨rfl, rfl⟩ | ⟨rfl, rfl⟩
    · rfl
    · rw [hI.2.2.2.1 _ _ (by omega) (by omega)]
theorem zn_bits (h : zHp) {x : Nat} (hx : x < 256) : zM_79 [.inl (nI x)] h = some (some (nI (zbits x)), h) := by
  have h1 : ∀ x, x < 256 → zand (((zand (((zand ((nI x) - (zand (zushr (nI x) (nI 1)) (nI 1431655765))) (nI 858993459)) + (zand (zushr ((nI x) - (zand (zushr (nI x) (nI 1)) (nI 1431655765))) (nI 2)) (nI 858993459))) + (zushr ((zand ((nI x) - (zand (zushr (nI x) (nI 1)) (nI 1431655765))) (nI 858993459)) + (zand (zushr ((nI x) - (zand (zushr (nI x) (nI 1)) (nI 1431655765))) (nI 2)) (nI 858993459))) (nI 4))) (nI 252645135)) + (zushr (zand (((zand ((nI x) - (zand (zushr (nI x) (nI 1)) (nI 1431655765))) (nI 858993459)) + (zand (zushr ((nI x) - (zand (zushr (nI x) (nI 1)) (nI 1431655765))) (nI 2)) (nI 858993459))) + (zushr ((zand ((nI x) - (zand (zushr (nI x) (nI 1)) (nI 1431655765))) (nI 858993459)) + (zand (zushr ((nI x) - (zand (zushr (nI x) (nI 1)) (nI 1431655765))) (nI 2)) (nI 858993459))) (nI 4))) (nI 252645135)) (nI 8))) + (zushr ((zand (((zand ((nI x) - (zand (zushr (nI x) (nI 1)) (nI 1431655765))) (nI 858993459)) + (zand (zushr ((nI x) - (zand (zushr (nI x) (nI 1)) (nI 1431655765))) (nI 2)) (nI 858993459))) + (zushr ((zand ((nI x) - (zand (zushr (nI x) (nI 1)) (nI 1431655765))) (nI 858993459)) + (zand (zushr ((nI x) - (zand (zushr (nI x) (nI 1)) (nI 1431655765))) (nI 2)) (nI 858993459))) (nI 4))) (nI 252645135)) + (zushr (zand (((zand ((nI x) - (zand (zushr (nI x) (nI 1)) (nI 1431655765))) (nI 858993459)) + (zand (zushr ((nI x) - (zand (zushr (nI x) (nI 1)) (nI 1431655765))) (nI 2)) (nI 858993459))) + (zushr ((zand ((nI x) - (zand (zushr (nI x) (nI 1)) (nI 1431655765))) (nI 858993459)) + (zand (zushr ((nI x) - (zand (zushr (nI x) (nI 1)) (nI 1431655765))) (nI 2)) (nI 858993459))) (nI 4))) (nI 252645135)) (nI 8))) (nI 16))) (nI 63) = nI (zbits x) := by decide +kernel
  rw [ze_79, h1 x hx]
