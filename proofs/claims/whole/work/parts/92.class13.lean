/-! forbid of the class. -/
theorem zS_clr {x : Nat} (y : Nat) (hx : x < 256) : zand (nI x) (zxor (nI y) (-1)) = nI (x &&& (255 ^^^ y)) := by
  have e1 : (-1 : Int32) = nI 4294967295 := by decide
  have e2 : x &&& (y ^^^ 4294967295) = x &&& (255 ^^^ y) := by
    apply Nat.eq_of_testBit_eq
    intro i
    rw [Nat.testBit_and, Nat.testBit_and, Nat.testBit_xor, Nat.testBit_xor]
    by_cases hi : i < 8
    · have h8 : ∀ i, i < 8 → Nat.testBit 255 i = true ∧ Nat.testBit 4294967295 i = true := by decide
      rw [(h8 i hi).1, (h8 i hi).2, Bool.xor_comm]
    · have hb : x.testBit i = false := Nat.testBit_lt_two_pow (Nat.lt_of_lt_of_le hx (Nat.pow_le_pow_right (n := 2) (by omega) (show 8 ≤ i by omega)))
      rw [hb, Bool.false_and, Bool.false_and]
  rw [e1, zS_xor, zS_and, e2]
theorem zclr_lt {x : Nat} (y : Nat) (hx : x < 256) : x &&& y < 256 := Nat.lt_of_le_of_lt Nat.and_le_left hx
theorem zclr_bit {x y i : Nat} (hx : x < 256) : (x &&& (255 ^^^ y)).testBit i = (x.testBit i && !y.testBit i) := by
  rw [Nat.testBit_and, Nat.testBit_xor]
  by_cases hi : i < 8
  · have h8 : ∀ i, i < 8 → Nat.testBit 255 i = true := by decide
    rw [h8 i hi, Bool.true_xor]
  · have hb : x.testBit i = false := Nat.testBit_lt_two_pow (Nat.lt_of_lt_of_le hx (Nat.pow_le_pow_right (n := 2) (by omega) (show 8 ≤ i by omega)))
    rw [hb, Bool.false_and, Bool.false_and]
theorem zfbs_bits {m : Nat → Nat} {a i : Nat} : (zfbs m a).testBit i = (decide (i < 4) && decide (zbd m a i = 1)) := by
  unfold zfbs
  rw [zset8_bit]
  simp
theorem zFb_bd {m : Nat → Nat} {a b v : Nat} (ha : a < 4) (hb : b < 4) : (∀ k, (k < 133 ∨ k = 149) → zmFb m a b v k = m k) ∧ (∀ x y, x < 4 → y < 4 → zbd (zmFb m a b v) x y = if (x = a ∧ y = b) ∨ (x = b ∧ y = a) then v else zbd m x y) := by
  refine ⟨?_, ?_⟩
  · intro k hk
    unfold zmFb zu
    rw [if_neg (by omega), if_neg (by omega)]
  · intro x y hx hy
    unfold zmFb zbd zu
    by_cases hq : (x = a ∧ y = b) ∨ (x = b ∧ y = a)
    · rw [if_pos hq]
      by_cases hz : x = b ∧ y = a
      · rw [if_pos (by omega)]
      · rw [if_neg (by omega), if_pos (by omega)]
    · rw [if_neg hq, if_neg (by omega), if_neg (by omega)]
theorem zfbs_up {m : Nat → Nat} {a b v x : Nat} (ha : a < 4) (hb : b < 4) (hx : x < 4) (S : Nat) (hS : ∀ i, S.testBit i = if (x = a ∧ i = b) ∨ (x = b ∧ i = a) then decide (v = 1) else (zfbs m x).testBit i) : S = zfbs (zmFb m a b v) x := by
  apply Nat.eq_of_testBit_eq
  intro i
  rw [hS, zfbs_bits, zfbs_bits]
  by_cases hi : i < 4
  · rw [decide_eq_true hi, (zFb_bd ha hb).2 x i hx hi, Bool.true_and, Bool.true_and]
    by_cases hq : (x = a ∧ i = b) ∨ (x = b ∧ i = a)
    · rw [if_pos hq, if_pos hq]
    · rw [if_neg hq, if_neg hq]
  · rw [decide_eq_false hi, if_neg (by omega), Bool.false_and, Bool.false_and]
/-- the state with other forbidden pairs -/
theorem zSr_fb {h g : zHp} {m : Nat → Nat} (hS : zSr h 1 m) (hI : zI m) {a b v : Nat} (ha : a < 4) (hb : b < 4) (h5 : ∀ x, x < 4 → g 5 x = nI (zfbs (zmFb m a b v) x)) (hz : ∀ x j, x ≠ 5 → g x j = h x j) : zSr g 1 (zmFb m a b v) := by
  obtain ⟨⟨s1, s2, s3⟩, s4, s5, s6, s7⟩ := hS
  have hn := zB_nb hI.1
  have hun := (zFb_bd (m := m) (v := v) ha hb).1
  have hof : ∀ d w, d < 8 → w < 5 → zof (zmFb m a b v) d w = zof m d w := fun d w hd hw => hun _ (by omega)
  have hev : zev8 (zmFb m a b v) = zev8 m := hun _ (by omega)
  have he := zB_ev hI.1
  have ht : ∀ d, zt (zmFb m a b v) d = zt m d := fun d => by
    by_cases hd : d < 8
    · unfold zt
      rw [hev, hof d 0 hd (by omega)]
    · rw [zt_no (show zev8 m ≤ d by omega), zt_no (show zev8 (zmFb m a b v) ≤ d by omega)]
  have hst0 : zst (zmFb m a b v) 0 = zst m 0 := by
    apply Nat.eq_of_testBit_eq
    intro i
    rw [zst_bit, zst_bit, ht]
  have hst1 : zst (zmFb m a b v) 1 = zst m 1 := by
    apply Nat.eq_of_testBit_eq
    intro i
    rw [zst1_bit, zst1_bit, ht]
    by_cases hd : i < 8
    · rw [hof i 4 hd (by omega)]
    · rw [zt_no (show zev8 m ≤ i by omega)]
      rfl
  have hnb : znb (zmFb m a b v) = znb m := hun _ (by omega)
  refine ⟨⟨by rw [hz _ _ (by omega), s1, hev], by rw [hz _ _ (by omega), s2, hst0], by rw [hz _ _ (by omega), s3, hst1]⟩, fun d hd htd => ?_, h5, by rw [hz _ _ (by omega), s6, hnb], fun k hk => ?_⟩
  · rw [ht] at htd
    obtain ⟨x1, x2, x3⟩ := s4 d hd htd
    rw [hof d 1 hd (by omega), hof d 2 hd (by omega), hof d 3 hd (by omega)]
    exact ⟨by rw [hz _ _ (by omega)]; exact x1, by rw [hz _ _ (by omega)]; exact x2, by rw [hz _ _ (by omega)]; exact x3⟩
  · rw [hnb] at hk
    obtain ⟨x1, x2, x3⟩ := s7 k hk
    obtain ⟨lo, hi, p1, p2, p3, p4⟩ := hI.2.2.2.2.2.2.2.1 k hk
    have hod : zod (zmFb m a b v) k = zod m k := hun _ (by omega)
    have hln : zln (zmFb m a b v) (zod m k / 10) (zod m k % 10) = zln m (zod m k / 10) (zod m k % 10) := hun _ (by omega)
    rw [hod, hln]
    exact ⟨by rw [hz _ _ (by omega)]; exact x1, by rw [hz _ _ (by omega)]; exact x2, by rw [hz _ _ (by omega)]; exact x3⟩
theorem zn_setp {h : zHp} {m : Nat → Nat} (hS : zSr h 1 m) (hI : zI m) {a b : Nat} (ha : a < 4) (hb : b < 4) (is : Bool) : ∃ g, zM_81 [.inr 1, .inl (nI a), .inl (nI b), .inl (nI is.toNat)] h = some (none, g) ∧ zSr g 1 (zmFb m a b is.toNat) ∧ ∀ x j, x ≠ 5 → g x j = h x j := by
  have h5 : ∀ x, x < 4 → h 5 x = nI (zfbs m x) := hS.2.2.1
  have fin : ∀ A C : Nat, (∀ i, A.testBit i = if i = b then is else (zfbs m a).testBit i) → (∀ i, C.testBit i = if i = a then is else (if b = a then A else zfbs m b).testBit i) → zSr (zup (zup h 5 a (nI A)) 5 b (nI C)) 1 (zmFb m a b is.toNat) ∧ ∀ x j, x ≠ 5 → zup (zup h 5 a (nI A)) 5 b (nI C) x j = h x j := by
    intro A C hA hC
    have hz : ∀ x j, x ≠ 5 → zup (zup h 5 a (nI A)) 5 b (nI C) x j = h x j := fun x j hx => by rw [zS_zup_ne _ hx, zS_zup_ne _ hx]
    have hv : decide (is.toNat = 1) = is := by cases is <;> rfl
    refine ⟨zSr_fb hS hI ha hb (fun x hx => ?_) hz, hz⟩
    by_cases hxb : x = b
    · subst hxb
      rw [zS_zup_same]
      congr 1
      refine zfbs_up ha hb hx C (fun i => ?_)
      rw [hC, hv]
      by_cases hi : i = a
      · rw [if_pos hi, if_pos (by omega)]
      · rw [if_neg hi]
        by_cases hxa : x = a
        · rw [if_pos hxa, hA]
          subst hxa
          rw [if_neg hi, if_neg (by omega)]
        · rw [if_neg hxa, if_neg (by omega)]
    · rw [zS_zup_nk _ _ hxb]
      by_cases hxa : x = a
      · subst hxa
        rw [zS_zup_same]
        congr 1
        refine zfbs_up ha hb hx A (fun i => ?_)
        rw [hA, hv]
        by_cases hi : i = b
        · rw [if_pos hi, if_pos (by omega)]
        · rw [if_neg hi, if_neg (by omega)]
      · rw [zS_zup_nk _ _ hxa, h5 x hx]
        congr 1
        exact zfbs_up ha hb hx _ (fun i => by rw [if_neg (by omega)])
  have hrd : ∀ A : Nat, zup h 5 a (nI A) 5 b = nI (if b = a then A else zfbs m b) := fun A => by
    by_cases hba : b = a
    · rw [if_pos hba, hba, zS_zup_same]
    · rw [if_neg hba, zS_zup_nk _ _ hba, h5 b hb]
  have la := zfbs_lt m a
  have lb := zfbs_lt m b
  have start := ze_81 (nI a) (nI b) (nI is.toNat) h
  rw [zS_b0, zS_ib _ (show a < 2147483648 by omega), zS_ib _ (show b < 2147483648 by omega), decide_eq_true ha, decide_eq_true hb, zS_cl (show a < 2147483648 by omega), zS_cl (show b < 2147483648 by omega), h5 a ha, zS_shl1 _ (show b < 16 by omega), zS_shl1 _ (show a < 16 by omega)] at start
  cases is with
  | false =>
    have lc : (if b = a then zfbs m a &&& (255 ^^^ 2 ^ b) else zfbs m b) < 256 := by
      split
      · exact zclr_lt _ la
      · exact lb
    rw [if_pos (by decide), if_pos rfl, if_pos rfl, if_pos rfl, if_pos rfl, zS_clr _ la, hrd, zS_clr _ lc] at start
    refine ⟨_, start, fin _ _ (fun i => ?_) (fun i => ?_)⟩
    · rw [zclr_bit la, Nat.testBit_two_pow]
      by_cases hi : i = b
      · rw [if_pos hi, decide_eq_true hi.symm]
        simp
      · rw [if_neg hi, decide_eq_false (fun e => hi e.symm)]
        simp
    · rw [zclr_bit lc, Nat.testBit_two_pow]
      by_cases hi : i = a
      · rw [if_pos hi, decide_eq_true hi.symm]
        simp
      · rw [if_neg hi, decide_eq_false (fun e => hi e.symm)]
        simp
  | true =>
    rw [if_neg (by decide), if_pos rfl, if_pos rfl, if_pos rfl, if_pos rfl, zS_or, hrd, zS_or] at start
    refine ⟨_, start, fin _ _ (fun i => ?_) (fun i => ?_)⟩
    · rw [zbit_or]
      by_cases hi : i = b
      · rw [if_pos hi, decide_eq_true hi.symm]
        simp
      · rw [if_neg hi, decide_eq_false (fun e => hi e.symm)]
        simp
    · rw [zbit_or]
      by_cases hi : i = a
      · rw [if_pos hi, decide_eq_true hi.symm]
        simp
      · rw [if_neg hi, decide_eq_false (fun e => hi e.symm)]
        simp
theorem zn_forbid {h : zHp} {m : Nat → Nat} {hs : List (Nat → Nat)} {sn : Option (Nat → Nat)} {tx : List Nat} (hV : zCV h m hs sn tx) (hI : zI m) (a b : Int32) (is : Bool) : zCAns (zM_84 [.inr 0, .inl a, .inl b, .inl (nI is.toNat)]) (zoForbid m a b is) h m hs sn tx := by
  have hS := hV.1
  have hB := hI.1
  have e1 := ze_84 a b (nI is.toNat) h
  rw [zn_col] at e1
  simp only [Option.bind_some, zpush] at e1
  rw [zb_84_4, zS_b0] at e1
  have hI2 := zI_forbid hI a b is
  unfold zoForbid at hI2 ⊢
  cases h1 : zcol a with
  | false =>
    rw [h1, if_pos (by decide)] at e1
    exact zCAns_no hV e1
  | true =>
  rw [h1, if_neg (by decide), zn_col] at e1
  simp only [Option.bind_some, zpush] at e1
  rw [zb_84_11, zS_b0n] at e1
  rw [h1, if_neg (by decide)] at hI2
  rw [if_neg (by decide)]
  cases h2 : zcol b with
  | false =>
    rw [h2, if_neg (by decide)] at e1
    exact zCAns_no hV e1
  | true =>
  obtain ⟨x, hx, rfl⟩ := zcol_of h1
  obtain ⟨y, hy, rfl⟩ := zcol_of h2
  rw [h2, if_pos rfl, zn_pair hS hx hy] at e1
  simp only [Option.bind_some, zpush] at e1
  have e2 : zci .ne (nI (decide (zbd m x y = 1)).toNat) (nI is.toNat) = !decide (decide (zbd m x y = 1) = is) := by
    cases decide (zbd m x y = 1) <;> cases is <;> decide
  rw [zb_84_26, e2] at e1
  rw [h2, if_neg (by decide), zS_cl (show x < 2147483648 by omega), zS_cl (show y < 2147483648 by omega)] at hI2
  rw [if_neg (by decide), zS_cl (show x < 2147483648 by omega), zS_cl (show y < 2147483648 by omega)]
  by_cases h3 : decide (zbd m x y = 1) = is
  · rw [decide_eq_true h3, if_neg (by decide)] at e1
    rw [if_pos h3]
    exact zCAns_no hV e1
  obtain ⟨h', p1, p2, p3, p4⟩ := zn_remV hV hB
  rw [decide_eq_false h3, if_pos (by decide), p1] at e1
  rw [if_neg h3] at hI2 ⊢
  simp only [Option.bind_some, zpush] at e1
  obtain ⟨g, g1, g2, g3⟩ := zn_setp p2.1 hI hx hy is
  have hI3 := hI2 _ rfl
  rw [zb_84_44, g1] at e1
  simp only [Option.bind_some, zpush] at e1
  rw [zb_84_54, zn_cnf g2 hI3] at e1
  simp only [Option.bind_some, zpush] at e1
  rw [zb_84_61] at e1
  exact ⟨_, e1, zCV_now p2 g2 (fun b j hb => g3 b j (by omega)), fun b hb j => by rw [g3 b j (by omega)]; exact p3 b hb j⟩
