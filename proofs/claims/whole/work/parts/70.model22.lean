/-! The reference's text: one border. -/
def zg (tx : List Nat) (k : Nat) : Nat := (tx[k]?).getD 0
def zbt (tx : List Nat) (k a b : Nat) : Bool := decide (k < tx.length) && (decide (a ≤ zg tx k) && decide (zg tx k ≤ b))
/-- the text in the heap, the reader at k -/
def zTx (h : zHp) (tx : List Nat) (k : Nat) : Prop := h 76 13 = nI tx.length ∧ tx.length ≤ 60 ∧ (∀ j, j < tx.length → h 83 j = nI (zg tx j) ∧ zg tx j < 65536) ∧ h 76 15 = nI k ∧ k ≤ 61
theorem zm_btw {h : zHp} {tx : List Nat} {k : Nat} (hT : zTx h tx k) {a b : Nat} (ha : a < 65536) (hb : b < 65536) : zM_24 [.inr 76, .inl (nI a), .inl (nI b)] h = some (some (nI (zbt tx k a b).toNat), h) := by
  obtain ⟨t1, t2, t3, t4, t5⟩ := hT
  rw [ze_24, t1, t4, zS_cge (by omega) (by omega), zS_bo0]
  unfold zbt
  by_cases h1 : k < tx.length
  · obtain ⟨g1, g2⟩ := t3 k h1
    rw [decide_eq_false (by omega), if_neg (by decide), zS_ib _ (by omega), decide_eq_true (by omega), if_pos rfl, zS_cl (by omega), g1, zm_in, decide_eq_decide.mpr (nI_ltI (show zg tx k < 2147483648 by omega) (show a < 2147483648 by omega)), decide_eq_decide.mpr (nI_ltI (show b < 2147483648 by omega) (show zg tx k < 2147483648 by omega)), decide_eq_true h1]
    simp only [Option.bind_some, zpush]
    rw [zb_24_25, zS_b0, zS_bo0, zS_bo1]
    by_cases h2 : zg tx k < a
    · rw [decide_eq_true h2, decide_eq_false (show ¬ a ≤ zg tx k by omega)]
      rfl
    · rw [decide_eq_false h2, decide_eq_true (show a ≤ zg tx k by omega)]
      by_cases h3 : b < zg tx k
      · rw [decide_eq_true h3, decide_eq_false (show ¬ zg tx k ≤ b by omega)]
        rfl
      · rw [decide_eq_false h3, decide_eq_true (show zg tx k ≤ b by omega)]
        rfl
  · rw [decide_eq_true (by omega), if_pos rfl, if_pos rfl, decide_eq_false h1]
    rfl
/-- a reading keeps all but its own cells -/
def zKt (h h' : zHp) : Prop := ∀ b j, ¬ (b = 76 ∧ 15 ≤ j ∧ j ≤ 18) → h' b j = h b j
theorem zKt_rf (h : zHp) : zKt h h := fun _ _ _ => rfl
theorem zKt_tr {h h' h'' : zHp} (a : zKt h h') (b : zKt h' h'') : zKt h h'' := fun c j q => by rw [b c j q, a c j q]
theorem zKt_up {h h' : zHp} (a : zKt h h') {k : Nat} (hk : 15 ≤ k) (hk2 : k ≤ 18) (x : Int32) : zKt h (zup h' 76 k x) := fun c j q => by
  have : zup h' 76 k x c j = h' c j := by
    unfold zup
    rw [if_neg (by omega)]
  rw [this, a c j q]
theorem zTx_at {h h' : zHp} {tx : List Nat} {k k' : Nat} (hT : zTx h tx k) (hK : zKt h h') (h15 : h' 76 15 = nI k') (hk : k' ≤ 61) : zTx h' tx k' := by
  obtain ⟨t1, t2, t3, t4, t5⟩ := hT
  exact ⟨by rw [hK 76 13 (by omega), t1], t2, fun j hj => by rw [hK 83 j (by omega)]; exact t3 j hj, h15, hk⟩
theorem zbt_lt {tx : List Nat} {k a b : Nat} (h : zbt tx k a b = true) : k < tx.length ∧ a ≤ zg tx k ∧ zg tx k ≤ b := by
  unfold zbt at h
  simp only [Bool.and_eq_true, decide_eq_true_eq] at h
  exact ⟨h.1, h.2.1, h.2.2⟩
theorem zm_takes {h : zHp} {tx : List Nat} {k : Nat} (hT : zTx h tx k) {a : Nat} (ha : a < 65536) : ∃ h', zM_25 [.inr 76, .inl (nI a)] h = some (some (nI (zbt tx k a a).toNat), h') ∧ zKt h h' ∧ h' 76 15 = nI (k + (zbt tx k a a).toNat) ∧ (∀ j, j ≠ 15 → h' 76 j = h 76 j) := by
  have t4 := hT.2.2.2.1
  rw [ze_25, zm_btw hT ha ha]
  simp only [Option.bind_some, zpush]
  rw [zb_25_6, zS_b0, zS_bo, t4, zS_add, zS_add]
  cases zbt tx k a a with
  | false => exact ⟨_, rfl, zKt_up (zKt_rf h) (by omega) (by omega) _, zS_zup_same _ _ _ _, fun j hj => zS_zup_nk _ _ hj _⟩
  | true => exact ⟨_, rfl, zKt_up (zKt_rf h) (by omega) (by omega) _, zS_zup_same _ _ _ _, fun j hj => zS_zup_nk _ _ hj _⟩
/-- a border at k: where its fault is, or what it says and where it ends -/
def zpb (tx : List Nat) (k : Nat) : Nat ⊕ (Nat × Nat × Nat × Nat) :=
  if zbt tx k 48 57 = false then .inl k else if zbt tx (k + 1) 45 45 = false then .inl (k + 1) else if zbt tx (k + 2) 48 57 = false then .inl (k + 2)
  else if zbt tx (k + 3) 58 58 = false then .inr (k + 3, zg tx k - 48, zg tx (k + 2) - 48, 1)
  else if zbt tx (k + 4) 49 57 = false then .inl (k + 4) else if zbt tx (k + 5) 48 57 = false then .inr (k + 5, zg tx k - 48, zg tx (k + 2) - 48, zg tx (k + 4) - 48)
  else .inr (k + 6, zg tx k - 48, zg tx (k + 2) - 48, 10 * (zg tx (k + 4) - 48) + zg tx (k + 5) - 48)
theorem zm_border1 {h : zHp} {tx : List Nat} {k : Nat} (hT : zTx h tx k) : ∃ h', zKt h h' ∧ match zpb tx k with
    | .inl j => zM_26 [.inr 76] h = some (some (nI 0), h') ∧ zTx h' tx j
    | .inr (j, a, b, n) => zM_26 [.inr 76] h = some (some (nI 1), h') ∧ zTx h' tx j ∧ h' 76 16 = nI a ∧ h' 76 17 = nI b ∧ h' 76 18 = nI n := by
  have t2 := hT.2.1
  have e1 := ze_26 h
  rw [zm_btw hT (by omega) (by omega)] at e1
  simp only [Option.bind_some, zpush] at e1
  rw [zb_26_8, zS_b0n, zS_bo0] at e1
  unfold zpb
  cases h1 : zbt tx k 48 57 with
  | false =>
    rw [h1, if_neg (by decide), if_pos rfl] at e1
    exact ⟨h, zKt_rf h, e1, hT⟩
  | true =>
  obtain ⟨l1, l2, l3⟩ := zbt_lt h1
  obtain ⟨t1, -, t3, t4, t5⟩ := id hT
  have c1 := t3 k l1
  rw [h1, if_pos rfl, t4, zS_ib _ (by omega), decide_eq_true (by omega), if_pos rfl, zS_cl (by omega), c1.1, zS_sub l2, zS_zup_nk _ _ (by omega), t4, zS_add] at e1
  have hK1 : zKt h (zup (zup h 76 16 (nI (zg tx k - 48))) 76 15 (nI (k + 1))) := zKt_up (zKt_up (zKt_rf h) (by omega) (by omega) _) (by omega) (by omega) _
  have hT1 := zTx_at hT hK1 (zS_zup_same _ _ _ _) (show k + 1 ≤ 61 by omega)
  obtain ⟨h2, p1, p2, p3, p4⟩ := zm_takes hT1 (a := 45) (by omega)
  rw [p1] at e1
  simp only [Option.bind_some, zpush] at e1
  rw [zb_26_45, zS_b0, zS_bo0] at e1
  rw [if_neg (show ¬ (true = false) by decide)]
  have f2 : h2 76 16 = nI (zg tx k - 48) := by rw [p4 16 (by omega), zS_zup_nk _ _ (by omega), zS_zup_same]
  cases h3 : zbt tx (k + 1) 45 45 with
  | false =>
    rw [h3, if_pos (by decide), if_pos rfl] at e1
    rw [h3] at p3
    exact ⟨h2, zKt_tr hK1 p2, e1, zTx_at hT1 p2 p3 (by omega)⟩
  | true =>
  obtain ⟨l4, -, -⟩ := zbt_lt h3
  rw [h3] at p3
  have hT2 : zTx h2 tx (k + 2) := zTx_at hT1 p2 p3 (by omega)
  rw [h3, if_neg (by decide), zm_btw hT2 (by omega) (by omega)] at e1
  simp only [Option.bind_some, zpush] at e1
  rw [zb_26_56, zS_b0n, zS_bo0] at e1
  rw [if_neg (show ¬ (true = false) by decide)]
  cases h5 : zbt tx (k + 2) 48 57 with
  | false =>
    rw [h5, if_neg (by decide), if_pos rfl] at e1
    exact ⟨h2, zKt_tr hK1 p2, e1, hT2⟩
  | true =>
  obtain ⟨l6, l7, l8⟩ := zbt_lt h5
  obtain ⟨-, -, u3, u4, -⟩ := id hT2
  have c2 := u3 (k + 2) l6
  rw [h5, if_pos rfl, u4, zS_ib _ (by omega), decide_eq_true (by omega), if_pos rfl, zS_cl (by omega), c2.1, zS_sub l7, zS_zup_nk _ _ (by omega), u4, zS_add] at e1
  have hK3 : zKt h2 (zup (zup (zup h2 76 17 (nI (zg tx (k + 2) - 48))) 76 15 (nI (k + 2 + 1))) 76 18 (nI 1)) := zKt_up (zKt_up (zKt_up (zKt_rf h2) (by omega) (by omega) _) (by omega) (by omega) _) (by omega) (by omega) _
  have hT3 : zTx _ tx (k + 3) := zTx_at hT2 hK3 (show _ = nI (k + 3) by rw [zS_zup_nk _ _ (by omega), zS_zup_same]) (by omega)
  obtain ⟨h4, q1, q2, q3, q4⟩ := zm_takes hT3 (a := 58) (by omega)
  rw [q1] at e1
  simp only [Option.bind_some, zpush] at e1
  rw [zb_26_98, zS_b0, zS_bo1] at e1
  rw [if_neg (show ¬ (true = false) by decide)]
  have g1 : h4 76 16 = nI (zg tx k - 48) := by rw [q4 16 (by omega), zS_zup_nk _ _ (by omega), zS_zup_nk _ _ (by omega), zS_zup_nk _ _ (by omega), f2]
  have g2 : h4 76 17 = nI (zg tx (k + 2) - 48) := by rw [q4 17 (by omega), zS_zup_nk _ _ (by omega), zS_zup_nk _ _ (by omega), zS_zup_same]
  have g3 : h4 76 18 = nI 1 := by rw [q4 18 (by omega), zS_zup_same]
  have hK4 := zKt_tr hK1 (zKt_tr p2 (zKt_tr hK3 q2))
  cases h6 : zbt tx (k + 3) 58 58 with
  | false =>
    rw [h6, if_pos (by decide), if_pos rfl] at e1
    rw [h6] at q3
    exact ⟨h4, hK4, e1, zTx_at hT3 q2 q3 (by omega), g1, g2, g3⟩
  | true =>
  obtain ⟨l9, -, -⟩ := zbt_lt h6
  rw [h6] at q3
  have hT4 : zTx h4 tx (k + 4) := zTx_at hT3 q2 q3 (by omega)
  rw [h6, if_neg (by decide), zm_btw hT4 (by omega) (by omega)] at e1
  simp only [Option.bind_some, zpush] at e1
  rw [zb_26_109, zS_b0n, zS_bo0] at e1
  rw [if_neg (show ¬ (true = false) by decide)]
  cases h7 : zbt tx (k + 4) 49 57 with
  | false =>
    rw [h7, if_neg (by decide), if_pos rfl] at e1
    exact ⟨h4, hK4, e1, hT4⟩
  | true =>
  obtain ⟨m1, m2, m3⟩ := zbt_lt h7
  obtain ⟨-, -, v3, v4, -⟩ := id hT4
  have c4 := v3 (k + 4) m1
  rw [h7, if_pos rfl, v4, zS_ib _ (by omega), decide_eq_true (by omega), if_pos rfl, zS_cl (by omega), c4.1, zS_sub (by omega), zS_zup_nk _ _ (by omega), v4, zS_add] at e1
  have hK5 : zKt h4 (zup (zup h4 76 18 (nI (zg tx (k + 4) - 48))) 76 15 (nI (k + 4 + 1))) := zKt_up (zKt_up (zKt_rf h4) (by omega) (by omega) _) (by omega) (by omega) _
  have hT5 : zTx _ tx (k + 5) := zTx_at hT4 hK5 (show _ = nI (k + 5) by rw [zS_zup_same]) (by omega)
  rw [zm_btw hT5 (by omega) (by omega)] at e1
  simp only [Option.bind_some, zpush] at e1
  rw [zb_26_148, zS_b0, zS_bo1] at e1
  rw [if_neg (show ¬ (true = false) by decide)]
  have k1 : (zup (zup h4 76 18 (nI (zg tx (k + 4) - 48))) 76 15 (nI (k + 4 + 1))) 76 16 = nI (zg tx k - 48) := by rw [zS_zup_nk _ _ (by omega), zS_zup_nk _ _ (by omega), g1]
  have k2 : (zup (zup h4 76 18 (nI (zg tx (k + 4) - 48))) 76 15 (nI (k + 4 + 1))) 76 17 = nI (zg tx (k + 2) - 48) := by rw [zS_zup_nk _ _ (by omega), zS_zup_nk _ _ (by omega), g2]
  have k3 : (zup (zup h4 76 18 (nI (zg tx (k + 4) - 48))) 76 15 (nI (k + 4 + 1))) 76 18 = nI (zg tx (k + 4) - 48) := by rw [zS_zup_nk _ _ (by omega), zS_zup_same]
  generalize zup (zup h4 76 18 (nI (zg tx (k + 4) - 48))) 76 15 (nI (k + 4 + 1)) = h5' at e1 hK5 hT5 k1 k2 k3
  cases h8 : zbt tx (k + 5) 48 57 with
  | false =>
    rw [h8, if_pos (by decide), if_pos rfl] at e1
    exact ⟨h5', zKt_tr hK4 hK5, e1, hT5, k1, k2, k3⟩
  | true =>
  obtain ⟨m4, m5, m6⟩ := zbt_lt h8
  obtain ⟨-, -, w3, w4, -⟩ := id hT5
  have c5 := w3 (k + 5) m4
  rw [h8, if_neg (by decide), w4, zS_ib _ (by omega), decide_eq_true (by omega), if_pos rfl, if_pos rfl, zS_cl (by omega), c5.1, k3, zS_mul, zS_add, zS_sub (by omega), zS_zup_nk _ _ (by omega), w4, zS_add] at e1
  rw [if_neg (show ¬ (true = false) by decide)]
  have hK6 : zKt h5' (zup (zup h5' 76 18 (nI (10 * (zg tx (k + 4) - 48) + zg tx (k + 5) - 48))) 76 15 (nI (k + 5 + 1))) := zKt_up (zKt_up (zKt_rf h5') (by omega) (by omega) _) (by omega) (by omega) _
  exact ⟨_, zKt_tr hK4 (zKt_tr hK5 hK6), e1, zTx_at hT5 hK6 (show _ = nI (k + 6) by rw [zS_zup_same]) (by omega), by rw [zS_zup_nk _ _ (by omega), zS_zup_nk _ _ (by omega), k1], by rw [zS_zup_nk _ _ (by omega), zS_zup_nk _ _ (by omega), k2], by rw [zS_zup_nk _ _ (by omega), zS_zup_same]⟩
