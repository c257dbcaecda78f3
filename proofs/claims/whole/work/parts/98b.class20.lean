/-! exchange of the class. -/
theorem zn_cex1 {h : zHp} {m : Nat → Nat} (hS : zSr h 1 m) (hI : zI m) {S own v : Nat} (hSl : S < 256) (hv : v < 4) (hown : own < 4) (hne : own ≠ v) (hcol : ∀ o, S.testBit o = true → zof m o 1 = v ∨ zof m o 1 = own) (hth : ∀ o, S.testBit o = true → zt m o = true) : ∀ (n k : Nat) (d5 : Option zV), k + n = 8 → zr_118 3 [some (.inr 1), some (.inl (nI S)), some (.inl (nI own)), some (.inl (nI v)), some (.inl (nI k)), d5] [] h = some (some (nI (zalls (zexp m S (own + v)) k n).toNat), h) := by
  intro n
  induction n with
  | zero =>
    intro k d5 hk
    rw [zb_118_3, zS_cge (by omega) (by omega), decide_eq_true (by omega), if_pos rfl, zS_bo1, if_pos rfl]
    rfl
  | succ n ih =>
    intro k d5 hk
    rw [zb_118_3, zS_cge (by omega) (by omega), decide_eq_false (by omega), if_neg (by decide), zn_has h hSl (by omega)]
    simp only [Option.bind_some, zpush]
    rw [zb_118_16, zS_b0, zS_add]
    have eall : zalls (zexp m S (own + v)) k (n + 1) = (zexp m S (own + v) k && zalls (zexp m S (own + v)) (k + 1) n) := rfl
    rw [eall]
    cases h1 : S.testBit k with
    | false =>
      rw [if_pos (by decide), ih (k + 1) d5 (by omega)]
      have : zexp m S (own + v) k = true := by
        unfold zexp
        rw [h1]
        rfl
      rw [this, Bool.true_and]
    | true =>
      have tk := hth k h1
      have ck := hcol k h1
      have c1 : h 2 k = nI (zof m k 1) := (hS.2.1 k (by omega) tk).1
      have c2 : h 3 k = nI (zof m k 2) := (hS.2.1 k (by omega) tk).2.1
      have b2 := zB_2 hI.1 (show k < 8 by omega)
      have ex : zexp m S (own + v) k = (!decide (zof m k 4 = 1) && (zof m k 2).testBit (own + v - zof m k 1)) := by
        unfold zexp
        rw [h1]
        rfl
      rw [ex, if_neg (by decide), zS_ib _ (by omega), decide_eq_true (show k < 8 by omega), if_pos rfl, zS_cl (by omega), c1, zS_cne (by omega) (by omega), zn_fixed hS hI.1 (by omega) tk]
      simp only [Option.bind_some, zpush]
      have tail : ∀ x, x = own + v - zof m k 1 → x < 4 → zr_118 43 [some (.inr 1), some (.inl (nI S)), some (.inl (nI own)), some (.inl (nI v)), some (.inl (nI k)), some (.inl (nI x))] [.inl (nI (decide (zof m k 4 = 1)).toNat)] h = some (some (nI ((!decide (zof m k 4 = 1) && (zof m k 2).testBit (own + v - zof m k 1)) && zalls (zexp m S (own + v)) (k + 1) n).toNat), h) := by
        intro x hx hx4
        rw [zb_118_43, zS_b0n, zS_bo0]
        cases h3 : decide (zof m k 4 = 1) with
        | true => rfl
        | false =>
          rw [if_neg (by decide), zS_ib _ (by omega), decide_eq_true (show k < 8 by omega), if_pos rfl, zS_cl (by omega), c2, zn_has h (by omega) (by omega)]
          simp only [Option.bind_some, zpush]
          rw [zb_118_58, zS_b0n, zS_bo0, zS_add, ← hx]
          cases h4 : (zof m k 2).testBit x with
          | false => rfl
          | true =>
            rw [if_pos rfl, ih (k + 1) _ (by omega)]
            rfl
      by_cases h2 : zof m k 1 = own
      · rw [decide_eq_true h2, if_neg (by decide)]
        exact tail v (by omega) hv
      · rw [decide_eq_false h2, if_pos (by decide)]
        exact tail own (by omega) hown
theorem zt_Ex {m : Nat → Nat} {S t x : Nat} (hx : x ≤ 8) (he : zev8 m ≤ 8) (d : Nat) : zt (zmEx m S t x) d = zt m d := by
  have hev : zev8 (zmEx m S t x) = zev8 m := zmEx_un m S t x (by omega) hx
  by_cases hd : d < 8
  · have h0 : zof (zmEx m S t x) d 0 = zof m d 0 := zmEx_un m S t x (by omega) hx
    unfold zt
    rw [hev, h0]
  · rw [zt_no (show zev8 m ≤ d by omega), zt_no (show zev8 (zmEx m S t x) ≤ d by omega)]
theorem zn_exc1 {m : Nat → Nat} (hI : zI m) {S own v : Nat} (hSl : S < 256) (hv : v < 4) (hown : own < 4) (hne : own ≠ v) (hcol : ∀ o, S.testBit o = true → zof m o 1 = v ∨ zof m o 1 = own) (hth : ∀ o, S.testBit o = true → zt m o = true) : ∀ (n k : Nat) (h : zHp), k + n = 8 → zSr h 1 (zmEx m S (own + v) k) → ∃ h', zr_119 3 [some (.inr 1), some (.inl (nI S)), some (.inl (nI own)), some (.inl (nI v)), some (.inl (nI k))] [] h = some (none, h') ∧ zSr h' 1 (zmEx m S (own + v) 8) ∧ ∀ b j, b ≠ 2 → h' b j = h b j := by
  have he := zB_ev hI.1
  intro n
  induction n with
  | zero =>
    intro k h hk hS
    have hk : k = 8 := by omega
    subst hk
    refine ⟨h, ?_, hS, fun _ _ _ => rfl⟩
    rw [zb_119_3, zS_cge (by omega) (by omega), decide_eq_true (by omega), if_pos rfl]
  | succ n ih =>
    intro k h hk hS
    have estep := zmEx_step m S (own + v) k
    rw [zb_119_3, zS_cge (by omega) (by omega), decide_eq_false (by omega), if_neg (by decide), zn_has h hSl (by omega)]
    simp only [Option.bind_some, zpush]
    rw [zb_119_16, zS_b0, zS_add]
    cases h1 : S.testBit k with
    | false =>
      rw [h1, if_neg (by decide)] at estep
      rw [if_pos (by decide)]
      exact ih (k + 1) h (by omega) (by rw [estep]; exact hS)
    | true =>
      have tk := hth k h1
      have ck := hcol k h1
      have c1 : h 2 k = nI (zof m k 1) := by
        rw [← zmEx_up m S (own + v) k (Nat.le_refl k)]
        exact (hS.2.1 k (by omega) (by rw [zt_Ex (by omega) he]; exact tk)).1
      rw [h1, if_pos rfl] at estep
      rw [if_neg (by decide), zS_ib _ (by omega), decide_eq_true (show k < 8 by omega), if_pos rfl, if_pos rfl, if_pos rfl, zS_cl (by omega), c1, zS_cne (by omega) (by omega)]
      have tail : ∀ x, x = own + v - zof m k 1 → ∃ h', zr_119 3 [some (.inr 1), some (.inl (nI S)), some (.inl (nI own)), some (.inl (nI v)), some (.inl (nI (k + 1)))] [] (zup h 2 k (nI x)) = some (none, h') ∧ zSr h' 1 (zmEx m S (own + v) 8) ∧ ∀ b j, b ≠ 2 → h' b j = h b j := by
        intro x hx
        obtain ⟨h', r1, r2, r3⟩ := ih (k + 1) (zup h 2 k (nI x)) (by omega) (by
          rw [estep, ← hx]
          exact zSr_col hS (by omega))
        exact ⟨h', r1, r2, fun b j hb => (r3 b j hb).trans (zS_zup_ne _ hb _ _ _)⟩
      by_cases h2 : zof m k 1 = own
      · rw [decide_eq_true h2, if_neg (by decide)]
        exact tail v (by omega)
      · rw [decide_eq_false h2, if_pos (by decide)]
        exact tail own (by omega)
theorem zn_exch {h : zHp} {m : Nat → Nat} {hs : List (Nat → Nat)} {sn : Option (Nat → Nat)} {tx : List Nat} (hV : zCV h m hs sn tx) (hI : zI m) (c v : Int32) : zCAns (zM_120 [.inr 0, .inl c, .inl v]) (zoExch m c v) h m hs sn tx := by
  have hS := hV.1
  have hB := hI.1
  have he := zB_ev hB
  have e1 := ze_120 c v h
  rw [zn_there hS hB] at e1
  simp only [Option.bind_some, zpush] at e1
  rw [zb_120_8, zS_b0n] at e1
  unfold zoExch zbar
  cases h1 : zth m c with
  | false =>
    rw [h1, if_neg (by decide)] at e1
    exact zCAns_no hV e1
  | true =>
  rw [h1, if_pos rfl, zn_col] at e1
  simp only [Option.bind_some, zpush] at e1
  rw [zb_120_17, zS_b0] at e1
  cases h2 : zcol v with
  | false =>
    rw [h2, if_pos (by decide)] at e1
    exact zCAns_no hV e1
  | true =>
  obtain ⟨n, hn, hn1, rfl⟩ := zth_of h1
  obtain ⟨k, hk, rfl⟩ := zcol_of h2
  have tn := zt_of hn hn1
  have hn8 : n < 8 := by omega
  have b1 := zB_1 hB hn8
  rw [h2, if_neg (by decide), zS_ib _ (by omega), decide_eq_true hn8, if_pos rfl, if_pos rfl, zS_cl (show n < 2147483648 by omega), show h 2 n = nI (zof m n 1) from (hS.2.1 n hn8 tn).1, zS_cne (by omega) (by omega)] at e1
  rw [zS_cl (show n < 2147483648 by omega), zS_cl (show k < 2147483648 by omega)]
  by_cases h3 : k = zof m n 1
  · rw [decide_eq_true h3, if_neg (by decide)] at e1
    rw [decide_eq_true (show nI (zof m n 1) = nI k by rw [h3])]
    exact zCAns_no hV e1
  have hcl := zchn_lt m n k
  have hcol := zchn_col (m := m) (c := n) (v := k)
  have hth : ∀ o, (zchn m n k).testBit o = true → zt m o = true := fun o ho => by
    have ho8 : o < 8 := by
      rcases Nat.lt_or_ge o 8 with a | a
      · exact a
      · have : (zchn m n k).testBit o = false := Nat.testBit_lt_two_pow (Nat.lt_of_lt_of_le hcl (Nat.pow_le_pow_right (n := 2) (by omega) (show 8 ≤ o by omega)))
        rw [this] at ho
        cases ho
    exact zRch_t tn ((zchn_bit ho8).mp ho)
  rw [decide_eq_false h3, if_pos (by decide), zn_chn hS hI hn8 tn hk] at e1
  simp only [Option.bind_some, zpush] at e1
  rw [zb_120_55, ze_118, zn_cex1 hS hI hcl hk (show zof m n 1 < 4 by omega) (fun e => h3 e.symm) hcol hth 8 0 _ (by omega)] at e1
  simp only [Option.bind_some, zpush] at e1
  rw [zb_120_68, zS_b0n] at e1
  rw [decide_eq_false (znI_ne (by omega) (by omega) (fun e => h3 e.symm))]
  have eall : zalls (zexp m (zchn m n k) (zof m n 1 + k)) 0 8 = zalls (zexp m (zchn m n k) (zof m n 1 + k)) 0 (zev8 m) := by
    rw [Bool.eq_iff_iff, zalls_of, zalls_of]
    constructor
    · intro a j j1 j2
      exact a j j1 (by omega)
    · intro a j j1 j2
      by_cases hj : j < zev8 m
      · exact a j j1 (by omega)
      · unfold zexp
        cases hb : (zchn m n k).testBit j with
        | false => rfl
        | true =>
          have := zt_lt (hth j hb)
          omega
  rw [eall] at e1
  show zCAns _ (if zalls (zexp m (zchn m n k) (zof m n 1 + k)) 0 (zev8 m) = true then _ else _) h m hs sn tx
  cases h4 : zalls (zexp m (zchn m n k) (zof m n 1 + k)) 0 (zev8 m) with
  | false =>
    rw [h4, if_neg (by decide)] at e1
    exact zCAns_no hV e1
  | true =>
  obtain ⟨h', p1, p2, p3, p4⟩ := zn_remV hV hB
  rw [h4, if_pos rfl, p1] at e1
  simp only [Option.bind_some, zpush] at e1
  obtain ⟨g, g1, g2, g3⟩ := zn_exc1 hI hcl hk (show zof m n 1 < 4 by omega) (fun e => h3 e.symm) hcol hth 8 0 h' (by omega) (by rw [zmEx_0]; exact p2.1)
  rw [zb_120_85, ze_119, g1] at e1
  simp only [Option.bind_some, zpush] at e1
  rw [zb_120_96, zn_bits _ hcl] at e1
  simp only [Option.bind_some, zpush] at e1
  rw [zb_120_101] at e1
  have eEx : zmEx m (zchn m n k) (zof m n 1 + k) 8 = zmEx m (zchn m n k) (zof m n 1 + k) (zev8 m) := by
    funext j
    unfold zmEx
    by_cases hq : j < 5 * zev8 m ∧ j % 5 = 1 ∧ (zchn m n k).testBit (j / 5) = true
    · rw [if_pos hq, if_pos ⟨by omega, hq.2⟩]
    · rw [if_neg hq, if_neg (fun e => hq ⟨by
        have := zt_lt (hth (j / 5) e.2.2)
        omega, e.2⟩)]
  rw [eEx] at g2
  exact ⟨_, e1, zCV_now p2 g2 (fun b j hb => g3 b j (by omega)), fun b hb j => by rw [g3 b j (by omega)]; exact p3 b hb j⟩
