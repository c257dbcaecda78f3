/-! count of the class. -/
theorem zn_lob1 {h : zHp} {m : Nat → Nat} (hS : zSr h 1 m) (hI : zI m) {w : Nat} (hw : w = 1 ∨ w = 2) : ∀ (n k acc : Nat), k + n = znb m → zr_167 4 [some (.inr 1), some (.inl (nI (2 - w))), some (.inl (nI acc)), some (.inl (nI k))] [] h = some (some (nI (acc + zsum (fun k => zovf m w (zod m k % 10) (zod m k / 10)) k n)), h) := by
  have hn := zB_nb hI.1
  have h6 : h 6 0 = nI (znb m) := hS.2.2.2.1
  intro n
  induction n with
  | zero =>
    intro k acc hk
    rw [zb_167_4, h6, zS_cge (by omega) (by omega), decide_eq_true (by omega), if_pos rfl]
    rfl
  | succ n ih =>
    intro k acc hk
    obtain ⟨lo, hi, p1, p2, p3, p4, q1, q2, q3, p5, t1, t2⟩ := zSr_at hS hI (show k < znb m by omega)
    have ez : zsum (fun k => zovf m w (zod m k % 10) (zod m k / 10)) k (n + 1) = zovf m w hi lo + zsum (fun k => zovf m w (zod m k % 10) (zod m k / 10)) (k + 1) n := by
      show zovf m w (zod m k % 10) (zod m k / 10) + _ = _
      rw [p3, p4]
    rw [ez, zb_167_4, h6, zS_cge (by omega) (by omega), decide_eq_false (by omega), if_neg (by decide), zS_ceq (by omega) (by omega), zS_ib _ (show k < 2147483648 by omega), decide_eq_true (show k < 28 by omega), if_pos rfl, zS_cl (show k < 2147483648 by omega), q3, zS_add, zS_add]
    have hsym := hI.2.2.2.1 hi lo p2 (show lo < 8 by omega)
    rcases hw with rfl | rfl
    · rw [decide_eq_false (by omega), if_neg (by decide), zn_cat hS hI (show k < znb m by omega)]
      simp only [Option.bind_some, zpush]
      rw [zb_167_24, zS_b0, p3, p4, zS_ib _ (show k < 2147483648 by omega), decide_eq_true (show k < 28 by omega), if_pos rfl, zS_cl (show k < 2147483648 by omega), q3, zS_add, zS_add]
      have e1 : zovf m 1 hi lo = if zcf m hi lo = true then zln m lo hi else 0 := by
        unfold zovf
        rw [if_neg (by omega), if_pos rfl, hsym]
      rw [e1]
      cases h4 : zcf m hi lo with
      | false =>
        rw [if_pos (by decide), ih (k + 1) acc (by omega), if_neg (by decide), Nat.zero_add]
      | true =>
        rw [if_neg (by decide), ih (k + 1) _ (by omega), if_pos rfl, Nat.add_assoc]
    · have e1 : zovf m 2 hi lo = zln m lo hi := by
        unfold zovf
        rw [if_pos rfl, hsym]
      rw [e1, decide_eq_true (by omega), if_pos rfl, ih (k + 1) _ (by omega), Nat.add_assoc]
theorem zn_lob {h : zHp} {m : Nat → Nat} (hS : zSr h 1 m) (hI : zI m) {w : Nat} (hw : w = 1 ∨ w = 2) : zM_167 [.inr 1, .inl (nI (2 - w))] h = some (some (nI (zov m w)), h) := by
  rw [ze_167, zn_lob1 hS hI hw (znb m) 0 0 (by omega), zov_ord hI, Nat.zero_add]
theorem zusedf_app (m : Nat → Nat) : ∀ (a b c : Nat), zusedf m c (a + b) = zusedf m c a ||| zusedf m (c + a) b := by
  intro a
  induction a with
  | zero =>
    intro b c
    simp [zusedf]
  | succ a ih =>
    intro b c
    rw [show a + 1 + b = (a + b) + 1 by omega]
    show (if zt m c = true then 2 ^ zof m c 1 else 0) ||| zusedf m (c + 1) (a + b) = ((if zt m c = true then 2 ^ zof m c 1 else 0) ||| zusedf m (c + 1) a) ||| zusedf m (c + (a + 1)) b
    rw [ih b (c + 1), Nat.or_assoc, show c + 1 + a = c + (a + 1) by omega]
theorem zusedf_no {m : Nat → Nat} : ∀ (n c : Nat), zev8 m ≤ c → zusedf m c n = 0 := by
  intro n
  induction n with
  | zero => intro c _; rfl
  | succ n ih =>
    intro c hc
    show (if zt m c = true then 2 ^ zof m c 1 else 0) ||| zusedf m (c + 1) n = 0
    rw [zt_no hc, ih (c + 1) (by omega), if_neg (by decide)]
    rfl
theorem zn_dif1 {h : zHp} {m : Nat → Nat} (hS : zSr h 1 m) (hI : zI m) : ∀ (n k acc : Nat), k + n = 8 → (acc ||| zusedf m k n) < 256 → zr_168 4 [some (.inr 1), some (.inl (nI acc)), some (.inl (nI k))] [] h = some (some (nI (zbits (acc ||| zusedf m k n))), h) := by
  intro n
  induction n with
  | zero =>
    intro k acc hk hlt
    have e : (acc ||| zusedf m k 0) = acc := by simp [zusedf]
    rw [e] at hlt ⊢
    rw [zb_168_4, zS_cge (by omega) (by omega), decide_eq_true (by omega), if_pos rfl, zn_bits h hlt]
    simp only [Option.bind_some, zpush]
    rw [zb_168_39]
  | succ n ih =>
    intro k acc hk hlt
    have e : (acc ||| zusedf m k (n + 1)) = (acc ||| (if zt m k = true then 2 ^ zof m k 1 else 0)) ||| zusedf m (k + 1) n := by
      rw [Nat.or_assoc]
      rfl
    rw [e] at hlt ⊢
    have ex : zth m (nI k) = zt m k := zth_nI (by omega)
    rw [zb_168_4, zS_cge (by omega) (by omega), decide_eq_false (by omega), if_neg (by decide), zn_there hS hI.1, ex]
    simp only [Option.bind_some, zpush]
    rw [zb_168_15, zS_b0, zS_add]
    cases h1 : zt m k with
    | false =>
      rw [h1] at hlt
      rw [if_pos (by decide), ih (k + 1) acc (by omega) (by simpa using hlt)]
      simp
    | true =>
      have c1 : h 2 k = nI (zof m k 1) := (hS.2.1 k (by omega) h1).1
      have b1 := zB_1 hI.1 (show k < 8 by omega)
      rw [h1, if_pos rfl] at hlt
      rw [if_neg (by decide), zS_ib _ (by omega), decide_eq_true (show k < 8 by omega), if_pos rfl, zS_cl (by omega), c1, zS_shl1 _ (by omega), zS_or, if_pos rfl]
      exact ih (k + 1) _ (by omega) hlt
theorem zn_dif {h : zHp} {m : Nat → Nat} (hS : zSr h 1 m) (hI : zI m) : zM_168 [.inr 1] h = some (some (nI (zbits (zused m))), h) := by
  have he := zB_ev hI.1
  have h1 := zusedf_lt hI.1 8 0 (by omega)
  have := zn_dif1 hS hI 8 0 0 (by omega) (by rw [Nat.zero_or]; omega)
  have e1 : zusedf m 0 8 = zused m := by
    have := zusedf_app m (zev8 m) (8 - zev8 m) 0
    rw [show zev8 m + (8 - zev8 m) = 8 by omega, zusedf_no (8 - zev8 m) (0 + zev8 m) (by omega), Nat.or_zero] at this
    exact this
  rw [Nat.zero_or, e1] at this
  rw [ze_168, this]
theorem zn_prs1 {h : zHp} {m : Nat → Nat} (hS : zSr h 1 m) {a : Nat} (ha : a < 4) : ∀ (n b acc : Nat), b + n = 4 → zr_169 11 [some (.inr 1), some (.inl (nI acc)), some (.inl (nI a)), some (.inl (nI b))] [] h = zr_169 4 [some (.inr 1), some (.inl (nI (acc + zsum (fun b => (decide (zbd m a b = 1)).toNat) b n))), some (.inl (nI (a + 1))), some (.inl (nI 4))] [] h := by
  intro n
  induction n with
  | zero =>
    intro b acc hb
    have hb : b = 4 := by omega
    subst hb
    rw [zb_169_11, zS_cge (by omega) (by omega), decide_eq_true (by omega), if_pos rfl, zS_add]
    rfl
  | succ n ih =>
    intro b acc hb
    rw [zb_169_11, zS_cge (by omega) (by omega), decide_eq_false (by omega), if_neg (by decide), zn_pair hS ha (by omega)]
    simp only [Option.bind_some, zpush]
    rw [zb_169_22, zS_b0, zS_add, zS_add]
    have e2 : acc + zsum (fun b => (decide (zbd m a b = 1)).toNat) b (n + 1) = acc + (decide (zbd m a b = 1)).toNat + zsum (fun b => (decide (zbd m a b = 1)).toNat) (b + 1) n := by
      simp only [zsum, Nat.add_assoc]
    rw [e2]
    cases h4 : decide (zbd m a b = 1) with
    | false => exact ih (b + 1) acc (by omega)
    | true => exact ih (b + 1) (acc + 1) (by omega)
theorem zn_prs2 {h : zHp} {m : Nat → Nat} (hS : zSr h 1 m) : ∀ (n a acc : Nat) (d3 : Option zV), a + n = 4 → zr_169 4 [some (.inr 1), some (.inl (nI acc)), some (.inl (nI a)), d3] [] h = some (some (nI (acc + zsum (fun a => zsum (fun b => (decide (zbd m a b = 1)).toNat) a (4 - a)) a n)), h) := by
  intro n
  induction n with
  | zero =>
    intro a acc d3 ha
    rw [zb_169_4, zS_cge (by omega) (by omega), decide_eq_true (by omega), if_pos rfl]
    simp [zsum]
  | succ n ih =>
    intro a acc d3 ha
    rw [zb_169_4, zS_cge (by omega) (by omega), decide_eq_false (by omega), if_neg (by decide), zn_prs1 hS (show a < 4 by omega) (4 - a) a acc (by omega), ih (a + 1) _ _ (by omega)]
    simp only [zsum, Nat.add_assoc]
theorem zn_prs {h : zHp} {m : Nat → Nat} (hS : zSr h 1 m) (hI : zI m) : zM_169 [.inr 1] h = some (some (nI (zprs m)), h) := by
  have e1 : zsum (fun a => zsum (fun b => (decide (zbd m a b = 1)).toNat) a (4 - a)) 0 4 = zprs m := by
    have i6 := hI.2.2.2.2.2.2.1
    unfold zprs
    simp only [zsum, Nat.reduceAdd, Nat.reduceSub, Nat.zero_add]
    rw [i6 0 1 (by omega) (by omega), i6 0 2 (by omega) (by omega), i6 0 3 (by omega) (by omega), i6 1 2 (by omega) (by omega), i6 1 3 (by omega) (by omega), i6 2 3 (by omega) (by omega)]
    omega
  rw [ze_169, zn_prs2 hS 4 0 0 _ (by omega), e1, Nat.zero_add]
theorem zn_count {h : zHp} {m : Nat → Nat} {hs : List (Nat → Nat)} {sn : Option (Nat → Nat)} {tx : List Nat} (hV : zCV h m hs sn tx) (hI : zI m) (w : Int32) : zM_170 [.inr 0, .inl w] h = some (some (zqCount m hs.length tx.length w), h) := by
  have hS := hV.1
  have hB := hI.1
  have he := zB_ev hB
  rw [ze_170]
  unfold zqCount
  rcases zsw w (n := 11) (by omega) with hx | ⟨k, hk, rfl⟩
  · have hne : ∀ k, k ≤ 11 → w ≠ nI k := by
      intro k hk e
      subst e
      rw [nI_toInt (by omega)] at hx
      omega
    rw [zb_170_1_d _ _ _ hx, zb_170_165, if_neg (hne 0 (by omega)), if_neg (hne 1 (by omega)), if_neg (hne 2 (by omega)), if_neg (hne 3 (by omega)), if_neg (hne 4 (by omega)), if_neg (hne 5 (by omega)), if_neg (hne 6 (by omega)), if_neg (hne 7 (by omega)), if_neg (hne 8 (by omega)), if_neg (hne 9 (by omega)), if_neg (hne 10 (by omega)), if_neg (hne 11 (by omega))]
  · have hc : k = 0 ∨ k = 1 ∨ k = 2 ∨ k = 3 ∨ k = 4 ∨ k = 5 ∨ k = 6 ∨ k = 7 ∨ k = 8 ∨ k = 9 ∨ k = 10 ∨ k = 11 := by omega
    rcases hc with rfl | rfl | rfl | rfl | rfl | rfl | rfl | rfl | rfl | rfl | rfl | rfl
    · rw [zb_170_1_c0, show h 1 1 = nI (zst m 0) from hS.1.2.1]
      rfl
    · rw [zb_170_1_c1, show h 1 0 = nI (zev8 m) from hS.1.1]
      rfl
    · rw [zb_170_1_c2, show h 6 0 = nI (znb m) from hS.2.2.2.1]
      rfl
    · rw [zb_170_1_c3, show zM_167 [.inr 1, .inl (nI 0)] h = some (some (nI (zov m 2)), h) from zn_lob hS hI (w := 2) (Or.inr rfl)]
      simp only [Option.bind_some, zpush]
      rw [zb_170_99]
      rfl
    · rw [zb_170_1_c4, zn_cnf hS hI]
      simp only [Option.bind_some, zpush]
      rw [zb_170_107]
      rfl
    · rw [zb_170_1_c5, show zM_167 [.inr 1, .inl (nI 1)] h = some (some (nI (zov m 1)), h) from zn_lob hS hI (w := 1) (Or.inl rfl)]
      simp only [Option.bind_some, zpush]
      rw [zb_170_116]
      rfl
    · rw [zb_170_1_c6, zn_wrs hS hI]
      simp only [Option.bind_some, zpush]
      rw [zb_170_124]
      rfl
    · rw [zb_170_1_c7, show h 1 2 = nI (zst m 1) from hS.1.2.2]
      rfl
    · rw [zb_170_1_c8, zn_dif hS hI]
      simp only [Option.bind_some, zpush]
      rw [zb_170_140]
      rfl
    · rw [zb_170_1_c9, zn_prs hS hI]
      simp only [Option.bind_some, zpush]
      rw [zb_170_148]
      rfl
    · rw [zb_170_1_c10, hV.2.1.1]
      rfl
    · rw [zb_170_1_c11, hV.2.2.2.1]
      rfl
