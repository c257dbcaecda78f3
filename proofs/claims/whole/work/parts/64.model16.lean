/-! The reference's search: whether a picked colour fits. -/
def zadj (m : Nat → Nat) (e1 e2 : Int32) (i o : Nat) : Bool := decide (0 < zln m i o) || (decide (nI i = e1) && decide (nI o = e2) || decide (nI i = e2) && decide (nI o = e1))
theorem zm_adj {h : zHp} {m : Nat → Nat} (hR : zR h m) (hB : zB m) {e1 e2 : Int32} (h1 : h 76 11 = e1) (h2 : h 76 12 = e2) {i o : Nat} (hi : i < 8) (ho : o < 8) : zM_33 [.inr 76, .inl (nI i), .inl (nI o)] h = some (some (nI (zadj m e1 e2 i o).toNat), h) := by
  have l1 := zB_l hB hi ho
  rw [ze_33, zm_len hR hi ho]
  simp only [Option.bind_some, zpush]
  rw [zb_33_6, zS_cgt (by omega) (by omega), h1, h2, zS_bo0, zS_bo1]
  unfold zadj
  by_cases g1 : 0 < zln m i o
  · rw [decide_eq_true g1]
    rfl
  · rw [decide_eq_false g1]
    change (if false = true then _ else if (!decide (nI i = e1)) = true then (if (!decide (nI i = e2)) = true then _ else if (!decide (nI o = e1)) = true then _ else _) else if decide (nI o = e2) = true then _ else if (!decide (nI i = e2)) = true then _ else if (!decide (nI o = e1)) = true then _ else _) = _
    cases decide (nI i = e1) <;> cases decide (nI i = e2) <;> cases decide (nI o = e1) <;> cases decide (nI o = e2) <;> rfl
/-- what is wrong with the colour v of i beside o -/
def zclash (m : Nat → Nat) (e1 e2 : Int32) (i v : Nat) (p : Nat → Nat) (o : Nat) : Bool := zt m o && (zadj m e1 e2 i o && decide (zbd m v (p o) = 1))
def zfit (m : Nat → Nat) (e1 e2 : Int32) (i v : Nat) (p : Nat → Nat) : Bool := (zof m i 2).testBit v && (!(decide (zof m i 4 = 1) && !decide (zof m i 1 = v)) && zalls (fun o => !zclash m e1 e2 i v p o) 0 i)
theorem zm_fits1 {h : zHp} {m : Nat → Nat} (hR : zR h m) (hB : zB m) {e1 e2 : Int32} (h1 : h 76 11 = e1) (h2 : h 76 12 = e2) {i v : Nat} (hi : i < 8) (hv : v < 4) {p : Nat → Nat} (hp : ∀ o, o < i → h 80 o = nI (p o)) (hp4 : ∀ o, o < i → p o < 4) : ∀ (n o : Nat), o + n = i → zr_34 44 [some (.inr 76), some (.inl (nI i)), some (.inl (nI v)), some (.inl (nI o))] [] h = some (some (nI (zalls (fun o => !zclash m e1 e2 i v p o) o n).toNat), h) := by
  intro n
  induction n with
  | zero =>
    intro o ho
    rw [zb_34_44, zS_cge (by omega) (by omega), decide_eq_true (by omega), if_pos rfl, zS_bo1, if_pos rfl]
    rfl
  | succ n ih =>
    intro o ho
    have hz : zalls (fun o => !zclash m e1 e2 i v p o) o (n + 1) = (!zclash m e1 e2 i v p o && zalls (fun o => !zclash m e1 e2 i v p o) (o + 1) n) := rfl
    rw [zb_34_44, zS_cge (by omega) (by omega), decide_eq_false (by omega), if_neg (by decide), zm_there_n hR hB (by omega)]
    simp only [Option.bind_some, zpush]
    rw [zb_34_54, zS_b0, zS_add, hz]
    have hcl : zclash m e1 e2 i v p o = (zt m o && (zadj m e1 e2 i o && decide (zbd m v (p o) = 1))) := rfl
    rw [hcl]
    cases g1 : zt m o with
    | false =>
      rw [if_pos (by decide), ih (o + 1) (by omega)]
      rfl
    | true =>
      rw [if_neg (by decide), zm_adj hR hB h1 h2 hi (by omega)]
      simp only [Option.bind_some, zpush]
      rw [zb_34_63, zS_b0, zS_add]
      cases g2 : zadj m e1 e2 i o with
      | false =>
        rw [if_pos (by decide), ih (o + 1) (by omega)]
        rfl
      | true =>
        rw [if_neg (by decide), zS_ib _ (by omega), decide_eq_true (by omega), if_pos rfl, zS_cl (by omega), hp o (by omega), zm_bad hR hB hv (hp4 o (by omega))]
        simp only [Option.bind_some, zpush]
        rw [zb_34_77, zS_b0, zS_add]
        cases g3 : decide (zbd m v (p o) = 1) with
        | false =>
          rw [if_pos (by decide), ih (o + 1) (by omega)]
          rfl
        | true =>
          rw [if_neg (by decide), zS_bo0, if_pos rfl]
          rfl
theorem zm_fits {h : zHp} {m : Nat → Nat} (hR : zR h m) (hB : zB m) {e1 e2 : Int32} (h1 : h 76 11 = e1) (h2 : h 76 12 = e2) {i v : Nat} (hi : i < 8) (hv : v < 4) {p : Nat → Nat} (hp : ∀ o, o < i → h 80 o = nI (p o)) (hp4 : ∀ o, o < i → p o < 4) (hpi : h 80 i = nI v) : zM_34 [.inr 76, .inl (nI i)] h = some (some (nI (zfit m e1 e2 i v p).toNat), h) := by
  have a2 := zB_2 hB hi
  have a1 := zB_1 hB hi
  have a4 := zB_4 hB hi
  have hl := zm_fits1 hR hB h1 h2 hi hv hp hp4 i 0 (by omega)
  have hz : zfit m e1 e2 i v p = ((zof m i 2).testBit v && (!(decide (zof m i 4 = 1) && !decide (zof m i 1 = v)) && zalls (fun o => !zclash m e1 e2 i v p o) 0 i)) := rfl
  rw [hz, ze_34, zS_ib _ (by omega), decide_eq_true hi, if_pos rfl, zS_cl (by omega), hpi, zm_of hR (by omega)]
  simp only [Option.bind_some, zpush]
  rw [zb_34_13, zS_shr _ (by omega) _ (by omega), zS_and, zS_bit, zS_b0]
  cases g1 : (zof m i 2).testBit v with
  | false =>
    rw [if_pos (by decide), zS_bo0, if_pos rfl]
    rfl
  | true =>
    rw [if_neg (by decide), zm_of hR (by omega)]
    simp only [Option.bind_some, zpush]
    rw [zb_34_26, zS_cne (by omega) (by omega)]
    by_cases g2 : zof m i 4 = 1
    · rw [decide_eq_true g2, if_neg (by decide), zm_of hR (by omega)]
      simp only [Option.bind_some, zpush]
      rw [zb_34_37, zS_ceq (by omega) (by omega)]
      by_cases g3 : zof m i 1 = v
      · rw [decide_eq_true (show v = zof m i 1 from g3.symm), decide_eq_true g3, if_pos rfl, hl]
        rfl
      · rw [decide_eq_false (show ¬ v = zof m i 1 from fun e => g3 e.symm), decide_eq_false g3, if_neg (by decide), zS_bo0, if_pos rfl]
        rfl
    · rw [decide_eq_false g2, if_pos (by decide), hl]
      rfl
