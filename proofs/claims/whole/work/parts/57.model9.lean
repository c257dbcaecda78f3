/-! setBorder, give. -/
def zoSet (m : Nat → Nat) (a b l : Int32) : Int32 × Option (Nat → Nat) :=
  if zth m a = false then (-1, none) else if zth m b = false then (-1, none) else if a = b then (-2, none) else if zrg l (nI 0) (nI 99) = false then (-2, none)
  else if zln m a.toNatClampNeg b.toNatClampNeg = l.toNatClampNeg then (-5, none) else (nI (zln m a.toNatClampNeg b.toNatClampNeg), some (zly m a.toNatClampNeg b.toNatClampNeg l.toNatClampNeg))
theorem zI_set {m : Nat → Nat} (h : zI m) (a b l : Int32) (m' : Nat → Nat) (hm : (zoSet m a b l).2 = some m') : zI m' := by
  unfold zoSet at hm
  split at hm
  · cases hm
  · rename_i h1
    split at hm
    · cases hm
    · rename_i h2
      split at hm
      · cases hm
      · rename_i h3
        split at hm
        · cases hm
        · rename_i h4
          split at hm
          · cases hm
          · cases hm
            have he := zB_ev h.1
            obtain ⟨n, hn, hn1, rfl⟩ := zth_of (c := a) (by simpa using h1)
            obtain ⟨k, hk, hk1, rfl⟩ := zth_of (c := b) (by simpa using h2)
            obtain ⟨v, hv, hv1, rfl⟩ := zrg_of (v := l) (a := 0) (b := 99) (by omega) (by omega) (by simpa using h4)
            rw [zS_cl (by omega), zS_cl (by omega), zS_cl (by omega)]
            exact zI_ly h (by omega) (by omega) (fun e => h3 (by rw [e])) hv1 (fun _ => ⟨hn1, hk1⟩)
theorem zm_setb {h : zHp} {m : Nat → Nat} {hs : List (Nat → Nat)} {sn : Option (Nat → Nat)} {tx : List Nat} (hV : zMV h m hs sn tx) (hI : zI m) (a b l : Int32) : zAns (zM_23 [.inr 76, .inl a, .inl b, .inl l]) (zoSet m a b l) h m hs sn tx := by
  have hR := hV.1
  have hB := hI.1
  have he := zB_ev hB
  have e1 := ze_23 a b l h
  rw [zm_no hR hB] at e1
  simp only [Option.bind_some, zpush] at e1
  rw [zb_23_5, zS_b0n] at e1
  unfold zoSet
  cases h1 : zth m a with
  | false =>
    rw [h1, if_pos (by decide)] at e1
    exact zAns_no hV e1
  | true =>
    rw [h1, if_neg (by decide), zm_no hR hB] at e1
    simp only [Option.bind_some, zpush] at e1
    rw [zb_23_13, zS_b0, Bool.not_not] at e1
    rw [if_neg (by decide)]
    cases h2 : zth m b with
    | false =>
      rw [h2, if_neg (by decide)] at e1
      exact zAns_no hV e1
    | true =>
      rw [h2, if_pos rfl] at e1
      rw [if_neg (by decide)]
      obtain ⟨n, hn, hn1, rfl⟩ := zth_of h1
      obtain ⟨k, hk, hk1, rfl⟩ := zth_of h2
      rw [zS_ceq (by omega) (by omega), zm_in] at e1
      by_cases h3 : n = k
      · rw [decide_eq_true h3, if_pos rfl] at e1
        rw [if_pos (show nI n = nI k by rw [h3])]
        exact zAns_no hV e1
      · rw [decide_eq_false h3, if_neg (by decide)] at e1
        simp only [Option.bind_some, zpush] at e1
        rw [zb_23_30, zS_b0n] at e1
        rw [if_neg (show ¬ nI n = nI k by rw [zS_eq (by omega) (by omega)]; exact h3)]
        change _ = (if zrg l (nI 0) (nI 99) = true then _ else _) at e1
        cases h4 : zrg l (nI 0) (nI 99) with
        | false =>
          rw [h4, if_neg (by decide)] at e1
          exact zAns_no hV e1
        | true =>
          obtain ⟨v, hv, hv1, rfl⟩ := zrg_of (v := l) (a := 0) (b := 99) (by omega) (by omega) h4
          rw [h4, if_pos rfl, zm_len hR (by omega) (by omega)] at e1
          simp only [Option.bind_some, zpush] at e1
          have h99 := zB_l hB (a := n) (b := k) (by omega) (by omega)
          rw [zb_23_42, zS_cne (by omega) (by omega)] at e1
          rw [if_neg (by decide), zS_cl (show n < 2147483648 by omega), zS_cl (show k < 2147483648 by omega), zS_cl (show v < 2147483648 by omega)]
          by_cases h5 : zln m n k = v
          · rw [decide_eq_true h5, if_neg (by decide)] at e1
            rw [if_pos h5]
            exact zAns_no hV e1
          · obtain ⟨h', p1, p2, p3⟩ := zm_recV hV
            rw [decide_eq_false h5, if_pos (by decide), p1] at e1
            simp only [Option.bind_some, zpush] at e1
            obtain ⟨h'', q1, q2, q3⟩ := zm_lays p2 hI (a := n) (b := k) (len := v) (by omega) (by omega) h3 hv1
            rw [zb_23_57, q1] at e1
            simp only [Option.bind_some, zpush] at e1
            rw [zb_23_64] at e1
            rw [if_neg h5]
            exact ⟨_, e1, q2, zlo_tr p3 q3⟩
def zcap (n : Nat) : Nat := if n ≤ 99 then n else 99
theorem zcap_le (n : Nat) : zcap n ≤ 99 := by unfold zcap; split <;> omega
def zmGive (m : Nat → Nat) (a b c l : Nat) : Nat → Nat := zly (zly m a b (zln m a b - l)) a c (zcap (zln m a c + l))
def zoGive (m : Nat → Nat) (a b c l : Int32) : Int32 × Option (Nat → Nat) :=
  if zth m a = false then (-1, none) else if zth m b = false then (-1, none) else if zth m c = false then (-1, none) else if a = b then (-2, none) else if a = c then (-2, none) else if b = c then (-2, none) else if zrg l (nI 1) (nI 99) = false then (-2, none)
  else if zln m a.toNatClampNeg b.toNatClampNeg = 0 then (-4, none) else if zln m a.toNatClampNeg c.toNatClampNeg = 0 then (-4, none) else if zln m a.toNatClampNeg b.toNatClampNeg < l.toNatClampNeg then (-4, none)
  else (nI (zln m a.toNatClampNeg b.toNatClampNeg - l.toNatClampNeg), some (zmGive m a.toNatClampNeg b.toNatClampNeg c.toNatClampNeg l.toNatClampNeg))
theorem zI_giveM {m : Nat → Nat} (h : zI m) {a b c l : Nat} (ha : a < 8) (hb : b < 8) (hc : c < 8) (hab : a ≠ b) (hac : a ≠ c) (ta : zof m a 0 = 1) (tb : zof m b 0 = 1) (tc : zof m c 0 = 1) : zI (zmGive m a b c l) := by
  have h99 := zB_l h.1 ha hb
  have h2 := zI_ly h ha hb hab (len := zln m a b - l) (by omega) (fun _ => ⟨ta, tb⟩)
  have hn := zB_nb h.1
  have ho : ∀ d, d < 8 → zof (zly m a b (zln m a b - l)) d 0 = zof m d 0 := fun d hd => zly_un ha hb hn (by omega)
  exact zI_ly h2 ha hc hac (zcap_le _) (fun _ => ⟨by rw [ho a ha]; exact ta, by rw [ho c hc]; exact tc⟩)
theorem zI_give {m : Nat → Nat} (h : zI m) (a b c l : Int32) (m' : Nat → Nat) (hm : (zoGive m a b c l).2 = some m') : zI m' := by
  unfold zoGive at hm
  split at hm
  · cases hm
  rename_i h1
  split at hm
  · cases hm
  rename_i h2
  split at hm
  · cases hm
  rename_i h3
  split at hm
  · cases hm
  rename_i h4
  split at hm
  · cases hm
  rename_i h5
  split at hm
  · cases hm
  split at hm
  · cases hm
  split at hm
  · cases hm
  split at hm
  · cases hm
  split at hm
  · cases hm
  cases hm
  have he := zB_ev h.1
  obtain ⟨n, hn, hn1, rfl⟩ := zth_of (c := a) (by simpa using h1)
  obtain ⟨k, hk, hk1, rfl⟩ := zth_of (c := b) (by simpa using h2)
  obtain ⟨q, hq, hq1, rfl⟩ := zth_of (c := c) (by simpa using h3)
  rw [zS_cl (by omega), zS_cl (by omega), zS_cl (by omega)]
  exact zI_giveM h (by omega) (by omega) (by omega) (fun e => h4 (by rw [e])) (fun e => h5 (by rw [e])) hn1 hk1 hq1
theorem zm_give {h : zHp} {m : Nat → Nat} {hs : List (Nat → Nat)} {sn : Option (Nat → Nat)} {tx : List Nat} (hV : zMV h m hs sn tx) (hI : zI m) (a b c l : Int32) : zAns (zM_31 [.inr 76, .inl a, .inl b, .inl c, .inl l]) (zoGive m a b c l) h m hs sn tx := by
  have hR := hV.1
  have hB := hI.1
  have he := zB_ev hB
  have e1 := ze_31 a b c l h
  rw [zm_no hR hB] at e1
  simp only [Option.bind_some, zpush] at e1
  rw [zb_31_5, zS_b0n] at e1
  unfold zoGive
  cases h1 : zth m a with
  | false =>
    rw [h1, if_pos (by decide)] at e1
    exact zAns_no hV e1
  | true =>
  rw [h1, if_neg (by decide), zm_no hR hB] at e1
  simp only [Option.bind_some, zpush] at e1
  rw [zb_31_13, zS_b0n] at e1
  rw [if_neg (by decide)]
  cases h2 : zth m b with
  | false =>
    rw [h2, if_pos (by decide)] at e1
    exact zAns_no hV e1
  | true =>
  rw [h2, if_neg (by decide), zm_no hR hB] at e1
  simp only [Option.bind_some, zpush] at e1
  rw [zb_31_21, zS_b0, Bool.not_not] at e1
  rw [if_neg (by decide)]
  cases h3 : zth m c with
  | false =>
    rw [h3, if_neg (by decide)] at e1
    exact zAns_no hV e1
  | true =>
  rw [h3, if_pos rfl] at e1
  rw [if_neg (by decide)]
  obtain ⟨n, hn, hn1, rfl⟩ := zth_of h1
  obtain ⟨k, hk, hk1, rfl⟩ := zth_of h2
  obtain ⟨q, hq, hq1, rfl⟩ := zth_of h3
  rw [zS_ceq (by omega) (by omega), zS_ceq (by omega) (by omega), zS_ceq (by omega) (by omega), zm_in] at e1
  by_cases h4 : n = k
  · rw [decide_eq_true h4, if_pos rfl] at e1
    rw [if_pos (show nI n = nI k by rw [h4])]
    exact zAns_no hV e1
  rw [decide_eq_false h4, if_neg (by decide)] at e1
  rw [if_neg (show ¬ nI n = nI k by rw [zS_eq (by omega) (by omega)]; exact h4)]
  by_cases h5 : n = q
  · rw [decide_eq_true h5, if_pos rfl] at e1
    rw [if_pos (show nI n = nI q by rw [h5])]
    exact zAns_no hV e1
  rw [decide_eq_false h5, if_neg (by decide)] at e1
  rw [if_neg (show ¬ nI n = nI q by rw [zS_eq (by omega) (by omega)]; exact h5)]
  by_cases h6 : k = q
  · rw [decide_eq_true h6, if_pos rfl] at e1
    rw [if_pos (show nI k = nI q by rw [h6])]
    exact zAns_no hV e1
  rw [decide_eq_false h6, if_neg (by decide)] at e1
  rw [if_neg (show ¬ nI k = nI q by rw [zS_eq (by omega) (by omega)]; exact h6)]
  simp only [Option.bind_some, zpush] at e1
  rw [zb_31_49, zS_b0n] at e1
  change _ = (if zrg l (nI 1) (nI 99) = true then _ else _) at e1
  cases h7 : zrg l (nI 1) (nI 99) with
  | false =>
    rw [h7, if_neg (by decide)] at e1
    exact zAns_no hV e1
  | true =>
  obtain ⟨v, hv, hv1, rfl⟩ := zrg_of (v := l) (a := 1) (b := 99) (by omega) (by omega) h7
  rw [h7, if_pos rfl, zm_len hR (by omega) (by omega)] at e1
  simp only [Option.bind_some, zpush] at e1
  rw [zb_31_61, zm_len hR (by omega) (by omega)] at e1
  simp only [Option.bind_some, zpush] at e1
  have h99 := zB_l hB (a := n) (b := k) (by omega) (by omega)
  have h99b := zB_l hB (a := n) (b := q) (by omega) (by omega)
  rw [zb_31_69, zS_ceq (by omega) (by omega), zS_ceq (by omega) (by omega), zS_cge (by omega) (by omega)] at e1
  rw [if_neg (by decide), zS_cl (show n < 2147483648 by omega), zS_cl (show k < 2147483648 by omega), zS_cl (show q < 2147483648 by omega), zS_cl (show v < 2147483648 by omega)]
  by_cases h8 : zln m n k = 0
  · rw [decide_eq_true h8, if_pos rfl] at e1
    rw [if_pos h8]
    exact zAns_no hV e1
  rw [decide_eq_false h8, if_neg (by decide)] at e1
  rw [if_neg h8]
  by_cases h9 : zln m n q = 0
  · rw [decide_eq_true h9, if_pos rfl] at e1
    rw [if_pos h9]
    exact zAns_no hV e1
  rw [decide_eq_false h9, if_neg (by decide)] at e1
  rw [if_neg h9]
  by_cases h10 : zln m n k < v
  · rw [decide_eq_false (by omega), if_neg (by decide)] at e1
    rw [if_pos h10]
    exact zAns_no hV e1
  obtain ⟨h', p1, p2, p3⟩ := zm_recV hV
  rw [decide_eq_true (by omega), if_pos rfl, p1] at e1
  rw [if_neg h10]
  simp only [Option.bind_some, zpush] at e1
  obtain ⟨h2', q1, q2, q3⟩ := zm_lays p2 hI (a := n) (b := k) (len := zln m n k - v) (by omega) (by omega) h4 (by omega)
  rw [zb_31_95, zS_sub (by omega), q1] at e1
  simp only [Option.bind_some, zpush] at e1
  have hI2 := zI_ly hI (a := n) (b := k) (len := zln m n k - v) (by omega) (by omega) h4 (by omega) (fun _ => ⟨hn1, hk1⟩)
  obtain ⟨h3', r1, r2, r3⟩ := zm_lays q2 hI2 (a := n) (b := q) (len := zcap (zln m n q + v)) (by omega) (by omega) h5 (zcap_le _)
  rw [zb_31_106, zS_add, zS_cle (by omega) (by omega)] at e1
  have e2 : zM_31 [.inr 76, .inl (nI n), .inl (nI k), .inl (nI q), .inl (nI v)] h = zr_31 132 [some (.inr 76), some (.inl (nI n)), some (.inl (nI k)), some (.inl (nI q)), some (.inl (nI v)), some (.inl (nI (zln m n k))), some (.inl (nI (zln m n q)))] [] h3' := by
    rw [e1]
    unfold zcap at r1
    by_cases h11 : zln m n q + v ≤ 99
    · rw [if_pos h11] at r1
      rw [decide_eq_true h11, if_pos rfl, r1]
      rfl
    · rw [if_neg h11] at r1
      rw [decide_eq_false h11, if_neg (by decide), r1]
      rfl
  rw [zb_31_132, zS_sub (by omega)] at e2
  exact ⟨_, e2, r2, zlo_tr p3 (zlo_tr q3 r3)⟩
