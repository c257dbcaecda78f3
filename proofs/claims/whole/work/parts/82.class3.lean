/-! The class's conflictsOf, isWrong, wrongCountries. -/
def zcfs (m : Nat → Nat) (c : Nat) : Nat := zset8 (fun o => zcf m c o) 0 8
theorem zset8_b8 (p : Nat → Bool) {i : Nat} (hi : i < 8) : (zset8 p 0 8).testBit i = p i := by
  rw [zset8_bit]
  simp [hi]
theorem zI_ev {m : Nat → Nat} (hI : zI m) {a b : Nat} (ha : a < 8) (hb : b < 8) (hl : 0 < zln m a b) : zt m a = true ∧ zt m b = true := by
  obtain ⟨hB, i1, i2, i3, i4, i5, i6, hO⟩ := hI
  have key : ∀ x, x < 8 → zof m x 0 = 1 → zt m x = true := fun x hx h1 => by
    rcases Nat.lt_or_ge x (zev8 m) with a | a
    · exact zt_of a h1
    · rw [i1 x hx a] at h1
      omega
  exact ⟨key a ha (i5 a b ha hb hl), key b hb (i5 b a hb ha (by rw [i3 b a hb ha]; exact hl))⟩
theorem znbs_bit {m : Nat → Nat} (hI : zI m) {c o : Nat} (hc : c < 8) (ho : o < 8) : (znbs m c).testBit o = decide (0 < zln m c o) := by
  unfold znbs
  rw [zset8_bit]
  by_cases h : 0 < zln m c o
  · have := zt_lt (zI_ev hI hc ho h).2
    simp [h, this]
  · simp [h]
theorem zn_cfs1 {h : zHp} {m : Nat → Nat} (hS : zSr h 1 m) (hI : zI m) {c : Nat} (hc : c < 8) (ht : zt m c = true) : ∀ (n x acc : Nat), x + n = 8 → zr_74 14 [some (.inr 1), some (.inl (nI c)), some (.inl (nI (znbs m c))), some (.inl (nI acc)), some (.inl (nI x))] [] h = some (some (nI (acc ||| zset8 (fun o => zcf m c o) x n)), h) := by
  have he := zB_ev hI.1
  have hnl : znbs m c < 256 := zset8_lt _ he
  intro n
  induction n with
  | zero =>
    intro x acc hx
    rw [zb_74_14, zS_cge (by omega) (by omega), decide_eq_true (by omega), if_pos rfl]
    simp [zset8]
  | succ n ih =>
    intro x acc hx
    rw [zb_74_14, zS_cge (by omega) (by omega), decide_eq_false (by omega), if_neg (by decide), zn_has h hnl (by omega), znbs_bit hI hc (by omega)]
    simp only [Option.bind_some, zpush]
    rw [zb_74_27, zS_b0, zS_add]
    by_cases h1 : 0 < zln m c x
    · have tx := (zI_ev hI hc (show x < 8 by omega) h1).2
      have c1 : h 2 c = nI (zof m c 1) := (hS.2.1 c hc ht).1
      have c2 : h 2 x = nI (zof m x 1) := (hS.2.1 x (by omega) tx).1
      have b1 := zB_1 hI.1 hc
      have b2 := zB_1 hI.1 (show x < 8 by omega)
      rw [decide_eq_true h1, if_neg (by decide), zS_ib _ (by omega), zS_ib _ (by omega), decide_eq_true hc, decide_eq_true (show x < 8 by omega), if_pos rfl, if_pos rfl, zS_cl (by omega), zS_cl (by omega), c1, c2, zn_pair hS (by omega) (by omega)]
      simp only [Option.bind_some, zpush]
      rw [zb_74_47, zS_b0, zS_add, zS_shl1 _ (by omega), zS_or]
      have e1 : zcf m c x = decide (zbd m (zof m c 1) (zof m x 1) = 1) := by
        unfold zcf
        rw [decide_eq_true h1, Bool.true_and]
      cases h3 : decide (zbd m (zof m c 1) (zof m x 1) = 1) with
      | false =>
        rw [h3] at e1
        rw [if_pos (by decide), ih (x + 1) _ (by omega)]
        simp [zset8, e1]
      | true =>
        rw [h3] at e1
        rw [if_neg (by decide), ih (x + 1) _ (by omega)]
        simp [zset8, e1, Nat.or_assoc]
    · have e1 : zcf m c x = false := by
        unfold zcf
        rw [decide_eq_false h1, Bool.false_and]
      rw [decide_eq_false h1, if_pos (by decide), ih (x + 1) _ (by omega)]
      simp [zset8, e1]
theorem zn_cfs {h : zHp} {m : Nat → Nat} (hS : zSr h 1 m) (hI : zI m) {c : Nat} (hc : c < 8) (ht : zt m c = true) : zM_74 [.inr 1, .inl (nI c)] h = some (some (nI (zcfs m c)), h) := by
  rw [ze_74, zn_nbs hS hI hc]
  simp only [Option.bind_some, zpush]
  rw [zb_74_8, zn_cfs1 hS hI hc ht 8 0 0 (by omega), Nat.zero_or]
  rfl
theorem zsum_app (f : Nat → Nat) : ∀ (n k l : Nat), zsum f k (n + l) = zsum f k n + zsum f (k + n) l := by
  intro n
  induction n with
  | zero =>
    intro k l
    simp [zsum]
  | succ n ih =>
    intro k l
    rw [show n + 1 + l = (n + l) + 1 by omega]
    simp only [zsum]
    rw [ih (k + 1) l, show k + 1 + n = k + (n + 1) by omega]
    omega
/-- how many conflicts -/
theorem zcfs_cnt {m : Nat → Nat} (hI : zI m) {c : Nat} (hc : c < 8) : zbits (zcfs m c) = zcnt m c := by
  have he := zB_ev hI.1
  have h1 : zbits (zcfs m c) = zsum (fun o => (zcf m c o).toNat) 0 8 := by
    unfold zbits
    exact zsum_congr 8 0 (fun j _ hj => by
      show ((zset8 (fun o => zcf m c o) 0 8).testBit j).toNat = (zcf m c j).toNat
      rw [zset8_b8 _ (by omega)])
  have h2 := zsum_app (fun o => (zcf m c o).toNat) (zev8 m) 0 (8 - zev8 m)
  rw [show zev8 m + (8 - zev8 m) = 8 by omega] at h2
  have h3 := zsum_le (f := fun o => (zcf m c o).toNat) (b := 0) (8 - zev8 m) (0 + zev8 m) (fun j a b => by
    show (zcf m c j).toNat ≤ 0
    have : ¬ 0 < zln m c j := fun hl => by
      have := zt_lt (zI_ev hI hc (show j < 8 by omega) hl).2
      omega
    unfold zcf
    rw [decide_eq_false this]
    exact Nat.le_refl _)
  rw [h1, h2]
  unfold zcnt
  omega
theorem zbits_0 {x : Nat} (hx : x < 256) : zbits x = 0 ↔ x = 0 := by
  have h1 : ∀ x, x < 256 → (zbits x = 0 ↔ x = 0) := by decide +kernel
  exact h1 x hx
theorem zn_wrong {h : zHp} {m : Nat → Nat} (hS : zSr h 1 m) (hI : zI m) {c : Nat} (hc : c < 8) (ht : zt m c = true) : zM_75 [.inr 1, .inl (nI c)] h = some (some (nI (zwr m c).toNat), h) := by
  have c1 : h 2 c = nI (zof m c 1) := (hS.2.1 c hc ht).1
  have c2 : h 3 c = nI (zof m c 2) := (hS.2.1 c hc ht).2.1
  have b1 := zB_1 hI.1 hc
  have b2 := zB_2 hI.1 hc
  have hl : zcfs m c < 256 := zset8_lt _ (by omega)
  rw [ze_75, zS_ib _ (by omega), decide_eq_true hc, if_pos rfl, if_pos rfl, zS_cl (by omega), c1, c2, zn_has h (by omega) (by omega)]
  simp only [Option.bind_some, zpush]
  rw [zb_75_15, zS_b0, zS_bo1]
  unfold zwr
  cases h1 : (zof m c 2).testBit (zof m c 1) with
  | false => rfl
  | true =>
    rw [if_neg (by decide), zn_cfs hS hI hc ht]
    simp only [Option.bind_some, zpush]
    rw [zb_75_23, zS_ceq (by omega) (by omega), zS_bo0, zS_bo1, if_pos rfl, if_pos rfl, ← zcfs_cnt hI hc]
    by_cases h2 : zcfs m c = 0
    · have := (zbits_0 hl).mpr h2
      rw [decide_eq_true h2, decide_eq_false (show ¬ 0 < zbits (zcfs m c) by omega)]
      rfl
    · have : zbits (zcfs m c) ≠ 0 := fun e => h2 ((zbits_0 hl).mp e)
      rw [decide_eq_false h2, decide_eq_true (show 0 < zbits (zcfs m c) by omega)]
      rfl
theorem zn_wrs1 {h : zHp} {m : Nat → Nat} (hS : zSr h 1 m) (hI : zI m) : ∀ (n x acc : Nat), x + n = 8 → zr_76 4 [some (.inr 1), some (.inl (nI acc)), some (.inl (nI x))] [] h = some (some (nI (acc ||| zset8 (fun c => zt m c && zwr m c) x n)), h) := by
  intro n
  induction n with
  | zero =>
    intro x acc hx
    rw [zb_76_4, zS_cge (by omega) (by omega), decide_eq_true (by omega), if_pos rfl]
    simp [zset8]
  | succ n ih =>
    intro x acc hx
    have ex : zth m (nI x) = zt m x := zth_nI (by omega)
    rw [zb_76_4, zS_cge (by omega) (by omega), decide_eq_false (by omega), if_neg (by decide), zn_there hS hI.1, ex]
    simp only [Option.bind_some, zpush]
    rw [zb_76_15, zS_b0, zS_add]
    cases h1 : zt m x with
    | false =>
      rw [if_pos (by decide), ih (x + 1) _ (by omega)]
      simp [zset8, h1]
    | true =>
      rw [if_neg (by decide), zn_wrong hS hI (by omega) h1]
      simp only [Option.bind_some, zpush]
      rw [zb_76_23, zS_b0, zS_add, zS_shl1 _ (by omega), zS_or]
      cases h2 : zwr m x with
      | false =>
        rw [if_pos (by decide), ih (x + 1) _ (by omega)]
        simp [zset8, h1, h2]
      | true =>
        rw [if_neg (by decide), ih (x + 1) _ (by omega)]
        simp [zset8, h1, h2, Nat.or_assoc]
theorem zn_wrs {h : zHp} {m : Nat → Nat} (hS : zSr h 1 m) (hI : zI m) : zM_76 [.inr 1] h = some (some (nI (zwrs m)), h) := by
  have he := zB_ev hI.1
  rw [ze_76, zn_wrs1 hS hI 8 0 0 (by omega), Nat.zero_or]
  have : zset8 (fun c => zt m c && zwr m c) 0 8 = zwrs m := zset8_congr (fun j => by
    cases h : zt m j with
    | false => simp
    | true =>
      have := zt_lt h
      simp [this, show j < 8 by omega])
  rw [this]
