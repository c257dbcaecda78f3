/-! undo, keep, restore; the text. -/
theorem zm_undo1 (h : zHp) {k : Nat} (hk : k < 4) (hh : h 76 2 = nI k) : ∀ (n x : Nat), x + n = 150 → zr_42 22 [some (.inr 76), some (.inl (nI x))] [] (zcy h 77 0 78 (150 * k) x) = some (some (nI k), zcy h 77 0 78 (150 * k) 150) := by
  intro n
  induction n with
  | zero =>
    intro x hx
    have hx : x = 150 := by omega
    subst hx
    rw [zb_42_22, zS_cge (by omega) (by omega), decide_eq_true (by omega), if_pos rfl, zcy_ne _ (by omega), hh]
  | succ n ih =>
    intro x hx
    have h2 := ih (x + 1) (by omega)
    have h3 := zcy_step h (d := 77) (s := 78) (by omega) 0 (150 * k) x
    rw [Nat.zero_add] at h3
    rw [zb_42_22, zS_cge (by omega) (by omega), decide_eq_false (by omega), if_neg (by decide), zcy_ne _ (by omega), hh, zS_mul, zS_add, zS_ib _ (by omega), decide_eq_true (by omega), if_pos rfl, zS_ib _ (by omega), decide_eq_true (by omega), if_pos rfl, zS_cl (by omega), zS_cl (by omega), h3, zS_add]
    exact h2
theorem zm_undo0 {h : zHp} {m : Nat → Nat} {sn : Option (Nat → Nat)} {tx : List Nat} (hV : zMV h m [] sn tx) : zM_42 [.inr 76] h = some (some (-5), h) := by
  rw [ze_42, hV.2.1.1]
  rfl
theorem zm_undo {h : zHp} {m y : Nat → Nat} {hs : List (Nat → Nat)} {sn : Option (Nat → Nat)} {tx : List Nat} (hV : zMV h m (hs ++ [y]) sn tx) : ∃ h', zM_42 [.inr 76] h = some (some (nI hs.length), h') ∧ zMV h' y hs sn tx ∧ zlo h h' := by
  obtain ⟨a, ⟨b1, b2, b3⟩, ⟨c1, c2⟩, ⟨d1, d2, d3⟩, e1, e2⟩ := hV
  have hl : (hs ++ [y]).length = hs.length + 1 := by simp
  rw [hl] at b1 b2
  have e3 := zm_undo1 (zup h 76 2 (nI hs.length)) (k := hs.length) (by omega) (zS_zup_same _ _ _ _) 150 0 (by omega)
  rw [zcy_0] at e3
  have hz : ∀ b j, b ≠ 77 → ¬ (b = 76 ∧ j = 2) → zcy (zup h 76 2 (nI hs.length)) 77 0 78 (150 * hs.length) 150 b j = h b j := fun b j hb hj => by
    rw [zcy_ne _ hb]
    unfold zup
    rw [if_neg hj]
  refine ⟨zcy (zup h 76 2 (nI hs.length)) 77 0 78 (150 * hs.length) 150, ?_, ⟨fun k hk => ?_, ⟨by rw [zcy_ne _ (by omega), zS_zup_same], by omega, fun i x hx k hk => ?_⟩, ⟨by rw [hz _ _ (by omega) (by omega), c1], fun x hx k hk => by rw [hz _ _ (by omega) (by omega), c2 x hx k hk]⟩, ⟨by rw [hz _ _ (by omega) (by omega), d1], d2, fun i x hx => by rw [hz _ _ (by omega) (by omega), d3 i x hx]⟩, by rw [hz _ _ (by omega) (by omega), e1], by rw [hz _ _ (by omega) (by omega), e2]⟩, fun b hb j => hz b j (by omega) (by omega)⟩
  · rw [ze_42, b1, zS_cne (by omega) (by omega), decide_eq_false (by omega), if_pos (by decide), zS_sub (by omega)]
    exact e3
  · rw [zcy_in _ (by omega) (by omega), zS_zup_ne _ (by omega), Nat.sub_zero]
    exact b3 hs.length y (by rw [List.getElem?_append_right (by omega)]; simp) k hk
  · have hlt := (List.getElem?_eq_some_iff.mp hx).1
    rw [hz _ _ (by omega) (by omega)]
    exact b3 i x (by rw [List.getElem?_append_left hlt]; exact hx) k hk
theorem zm_keep1 (h : zHp) : ∀ (n x : Nat), x + n = 150 → zr_43 2 [some (.inr 76), some (.inl (nI x))] [] (zcy h 79 0 77 0 x) = (zM_16 [.inr 76, .inl (nI 0)] (zup (zcy h 79 0 77 0 150) 76 4 (nI 1))).bind (fun r => zr_43 37 [some (.inr 76), some (.inl (nI 150))] (zpush r.1 []) r.2) := by
  intro n
  induction n with
  | zero =>
    intro x hx
    have hx : x = 150 := by omega
    subst hx
    rw [zb_43_2, zS_cge (by omega) (by omega), decide_eq_true (by omega), if_pos rfl, zS_bo1, if_pos rfl]
  | succ n ih =>
    intro x hx
    have h2 := ih (x + 1) (by omega)
    have h3 := zcy_step h (d := 79) (s := 77) (by omega) 0 0 x
    rw [Nat.zero_add] at h3
    rw [zb_43_2, zS_cge (by omega) (by omega), decide_eq_false (by omega), if_neg (by decide), zS_ib _ (by omega), decide_eq_true (by omega), if_pos rfl, if_pos rfl, zS_cl (by omega), h3, zS_add]
    exact h2
theorem zm_keep {h : zHp} {m : Nat → Nat} {hs : List (Nat → Nat)} {sn : Option (Nat → Nat)} {tx : List Nat} (hV : zMV h m hs sn tx) (hB : zB m) : ∃ h', zM_43 [.inr 76] h = some (some (nI (zbits (zst m 0))), h') ∧ zMV h' m hs (some m) tx ∧ zlo h h' := by
  obtain ⟨a, ⟨b1, b2, b3⟩, ⟨c1, c2⟩, ⟨d1, d2, d3⟩, e1, e2⟩ := hV
  have e3 := zm_keep1 h 150 0 (by omega)
  rw [zcy_0] at e3
  have hz : ∀ b j, b ≠ 79 → ¬ (b = 76 ∧ j = 4) → zup (zcy h 79 0 77 0 150) 76 4 (nI 1) b j = h b j := fun b j hb hj => by
    unfold zup
    rw [if_neg hj, zcy_ne _ hb]
  have hR' : zR (zup (zcy h 79 0 77 0 150) 76 4 (nI 1)) m := fun k hk => by rw [hz _ _ (by omega) (by omega), a k hk]
  refine ⟨zup (zcy h 79 0 77 0 150) 76 4 (nI 1), ?_, ⟨hR', ⟨by rw [hz _ _ (by omega) (by omega), b1], b2, fun i x hx k hk => by rw [hz _ _ (by omega) (by omega), b3 i x hx k hk]⟩, ⟨by rw [zS_zup_same]; rfl, fun x hx k hk => ?_⟩, ⟨by rw [hz _ _ (by omega) (by omega), d1], d2, fun i x hx => by rw [hz _ _ (by omega) (by omega), d3 i x hx]⟩, by rw [hz _ _ (by omega) (by omega), e1], by rw [hz _ _ (by omega) (by omega), e2]⟩, fun b hb j => hz b j (by omega) (by omega)⟩
  · rw [ze_43, e3, zm_set hR' hB (by omega)]
    simp only [Option.bind_some, zpush]
    rw [zb_43_37, zm_bits _ (zst_lt (zB_ev hB) _)]
    simp only [Option.bind_some, zpush]
    rw [zb_43_40]
  · cases hx
    rw [zS_zup_ne _ (by omega), zcy_in _ (by omega) (by omega), ← a k hk]
    exact congrArg (h 77) (by omega)
theorem zm_rest1 (h : zHp) : ∀ (n x : Nat), x + n = 150 → zr_44 16 [some (.inr 76), some (.inl (nI x))] [] (zcy h 77 0 79 0 x) = (zM_16 [.inr 76, .inl (nI 0)] (zcy h 77 0 79 0 150)).bind (fun r => zr_44 46 [some (.inr 76), some (.inl (nI 150))] (zpush r.1 []) r.2) := by
  intro n
  induction n with
  | zero =>
    intro x hx
    have hx : x = 150 := by omega
    subst hx
    rw [zb_44_16, zS_cge (by omega) (by omega), decide_eq_true (by omega), if_pos rfl]
  | succ n ih =>
    intro x hx
    have h2 := ih (x + 1) (by omega)
    have h3 := zcy_step h (d := 77) (s := 79) (by omega) 0 0 x
    rw [Nat.zero_add] at h3
    rw [zb_44_16, zS_cge (by omega) (by omega), decide_eq_false (by omega), if_neg (by decide), zS_ib _ (by omega), decide_eq_true (by omega), if_pos rfl, if_pos rfl, zS_cl (by omega), h3, zS_add]
    exact h2
theorem zm_rest0 {h : zHp} {m : Nat → Nat} {hs : List (Nat → Nat)} {tx : List Nat} (hV : zMV h m hs none tx) : zM_44 [.inr 76] h = some (some (-5), h) := by
  rw [ze_44, hV.2.2.1.1]
  rfl
theorem zm_rest {h : zHp} {m y : Nat → Nat} {hs : List (Nat → Nat)} {tx : List Nat} (hV : zMV h m hs (some y) tx) (hB : zB y) : ∃ h', zM_44 [.inr 76] h = some (some (nI (zbits (zst y 0))), h') ∧ zMV h' y (zph hs m) (some y) tx ∧ zlo h h' := by
  obtain ⟨h1, p1, p2, p3⟩ := zm_recV hV
  obtain ⟨a, ⟨b1, b2, b3⟩, ⟨c1, c2⟩, ⟨d1, d2, d3⟩, e1, e2⟩ := p2
  have e3 := zm_rest1 h1 150 0 (by omega)
  rw [zcy_0] at e3
  have hz : ∀ b j, b ≠ 77 → zcy h1 77 0 79 0 150 b j = h1 b j := fun b j hb => zcy_ne _ hb _
  have hR' : zR (zcy h1 77 0 79 0 150) y := fun k hk => by
    rw [zcy_in _ (by omega) (by omega), ← c2 y rfl k hk]
    exact congrArg (h1 79) (by omega)
  refine ⟨zcy h1 77 0 79 0 150, ?_, ⟨hR', ⟨by rw [hz _ _ (by omega), b1], b2, fun i x hx k hk => by rw [hz _ _ (by omega), b3 i x hx k hk]⟩, ⟨by rw [hz _ _ (by omega), c1], fun x hx k hk => by rw [hz _ _ (by omega), c2 x hx k hk]⟩, ⟨by rw [hz _ _ (by omega), d1], d2, fun i x hx => by rw [hz _ _ (by omega), d3 i x hx]⟩, by rw [hz _ _ (by omega), e1], by rw [hz _ _ (by omega), e2]⟩, zlo_tr p3 (fun b hb j => hz b j (by omega))⟩
  have e4 : zci .ne (nI (Option.isSome (some y)).toNat) (nI 0) = true := by show zci .ne (nI 1) (nI 0) = true; decide
  rw [ze_44, hV.2.2.1.1, e4, if_pos rfl, p1]
  simp only [Option.bind_some, zpush]
  rw [zb_44_14, e3, zm_set hR' hB (by omega)]
  simp only [Option.bind_some, zpush]
  rw [zb_44_46, zm_bits _ (zst_lt (zB_ev hB) _)]
  simp only [Option.bind_some, zpush]
  rw [zb_44_49]
/-- a sign -/
def ztc (x : Int32) : Nat := x.toUInt32.toUInt16.toNat
theorem ztc_lt (x : Int32) : ztc x < 65536 := UInt16.toNat_lt _
theorem ztc_eq (x : Int32) : vp_nar .char x = nI (ztc x) := by
  show (x.toUInt32.toUInt16.toUInt32.toInt32 : Int32) = Int32.ofNat (x.toUInt32.toUInt16.toNat)
  apply Int32.toBitVec_inj.mp
  apply BitVec.eq_of_toNat_eq
  simp
  have e : x.toBitVec.toNat = x.toUInt32.toNat := rfl
  rw [e]
  omega
theorem zm_type {h : zHp} {m : Nat → Nat} {hs : List (Nat → Nat)} {sn : Option (Nat → Nat)} {tx : List Nat} (hV : zMV h m hs sn tx) (x : Int32) : ∃ h', zM_40 [.inr 76, .inl x] h = some (some (if tx.length = 60 then -3 else nI (tx.length + 1)), h') ∧ zMV h' m hs sn (if tx.length = 60 then tx else tx ++ [ztc x]) ∧ zlo h h' := by
  obtain ⟨a, ⟨b1, b2, b3⟩, ⟨c1, c2⟩, ⟨d1, d2, d3⟩, e1, e2⟩ := id hV
  rw [ze_40, d1, zS_cne (by omega) (by omega)]
  by_cases h1 : tx.length = 60
  · rw [decide_eq_true h1, if_neg (by decide), if_pos h1, if_pos h1]
    exact ⟨h, rfl, hV, zlo_rf h⟩
  · rw [decide_eq_false h1, if_pos (by decide), zS_ib _ (by omega), decide_eq_true (by omega), if_pos rfl, if_neg h1, if_neg h1, ztc_eq, zS_cl (by omega), zS_zup_same, zS_zup_ne _ (by omega), d1, zS_add]
    have hz : ∀ b j, b ≠ 83 → ¬ (b = 76 ∧ j = 13) → zup (zup h 83 tx.length (nI (ztc x))) 76 13 (nI (tx.length + 1)) b j = h b j := fun b j hb hj => by
      unfold zup
      rw [if_neg hj, if_neg (fun e => hb e.1)]
    refine ⟨_, rfl, ⟨fun k hk => by rw [hz _ _ (by omega) (by omega), a k hk], ⟨by rw [hz _ _ (by omega) (by omega), b1], b2, fun i x hx k hk => by rw [hz _ _ (by omega) (by omega), b3 i x hx k hk]⟩, ⟨by rw [hz _ _ (by omega) (by omega), c1], fun x hx k hk => by rw [hz _ _ (by omega) (by omega), c2 x hx k hk]⟩, ⟨by rw [zS_zup_same]; simp, by simp; omega, fun i y hy => ?_⟩, by rw [hz _ _ (by omega) (by omega), e1], by rw [hz _ _ (by omega) (by omega), e2]⟩, fun b hb j => hz b j (by omega) (by omega)⟩
    rw [zS_zup_ne _ (by omega)]
    by_cases hi : i = tx.length
    · subst hi
      rw [List.getElem?_append_right (by omega)] at hy
      simp at hy
      rw [zS_zup_same, hy]
    · have hlt := (List.getElem?_eq_some_iff.mp hy).1
      simp at hlt
      rw [List.getElem?_append_left (by omega)] at hy
      rw [zS_zup_nk _ _ hi]
      exact d3 i y hy
theorem zm_clear {h : zHp} {m : Nat → Nat} {hs : List (Nat → Nat)} {sn : Option (Nat → Nat)} {tx : List Nat} (hV : zMV h m hs sn tx) : ∃ h', zM_41 [.inr 76] h = some (some (nI tx.length), h') ∧ zMV h' m hs sn [] ∧ zlo h h' := by
  obtain ⟨a, ⟨b1, b2, b3⟩, ⟨c1, c2⟩, ⟨d1, d2, d3⟩, e1, e2⟩ := id hV
  have hz : ∀ b j, ¬ (b = 76 ∧ j = 13) → zup h 76 13 (nI 0) b j = h b j := fun b j hj => by
    unfold zup
    rw [if_neg hj]
  rw [ze_41, d1]
  refine ⟨_, rfl, ⟨fun k hk => by rw [hz _ _ (by omega), a k hk], ⟨by rw [hz _ _ (by omega), b1], b2, fun i x hx k hk => by rw [hz _ _ (by omega), b3 i x hx k hk]⟩, ⟨by rw [hz _ _ (by omega), c1], fun x hx k hk => by rw [hz _ _ (by omega), c2 x hx k hk]⟩, ⟨by rw [zS_zup_same]; rfl, by simp, fun i y hy => by simp at hy⟩, by rw [hz _ _ (by omega), e1], by rw [hz _ _ (by omega), e2]⟩, fun b hb j => hz b j (by omega)⟩
