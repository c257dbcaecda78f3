/-! setBorder, give of the class. -/
theorem zrg_ite {α : Type} (v : Int32) {a b : Nat} (ha : a < 2147483648) (hb : b < 2147483648) (A B : α) : (if zci .lt v (nI a) = true then A else (if zci .le v (nI b) = true then B else A)) = if zrg v (nI a) (nI b) = false then A else B := by
  have hr := zrg_ci v ha hb _ rfl
  cases h2 : zrg v (nI a) (nI b) with
  | false =>
    rw [h2] at hr
    rw [if_pos rfl]
    cases h3 : zci .lt v (nI a) with
    | true => rfl
    | false =>
      cases h4 : zci .le v (nI b) with
      | true => exact absurd (hr.mp ⟨h3, h4⟩) (by decide)
      | false => rfl
  | true =>
    rw [h2] at hr
    obtain ⟨h3, h4⟩ := hr.mpr rfl
    rw [h3, h4]
    rfl
theorem znI_ne {x y : Nat} (hx : x < 2147483648) (hy : y < 2147483648) (h : x ≠ y) : nI x ≠ nI y := fun e => h ((nI_eq hx hy).mp e)
theorem zn_setb {h : zHp} {m : Nat → Nat} {hs : List (Nat → Nat)} {sn : Option (Nat → Nat)} {tx : List Nat} (hV : zCV h m hs sn tx) (hI : zI m) (a b l : Int32) : zCAns (zM_89 [.inr 0, .inl a, .inl b, .inl l]) (zoSet m a b l) h m hs sn tx := by
  have hS := hV.1
  have hB := hI.1
  have he := zB_ev hB
  have e1 := ze_89 a b l h
  rw [zn_there hS hB] at e1
  simp only [Option.bind_some, zpush] at e1
  rw [zb_89_8, zS_b0] at e1
  unfold zoSet
  cases h1 : zth m a with
  | false =>
    rw [h1, if_pos (by decide)] at e1
    exact zCAns_no hV e1
  | true =>
  rw [h1, if_neg (by decide), zn_there hS hB] at e1
  simp only [Option.bind_some, zpush] at e1
  rw [zb_89_19, zS_b0n] at e1
  rw [if_neg (by decide)]
  cases h2 : zth m b with
  | false =>
    rw [h2, if_neg (by decide)] at e1
    exact zCAns_no hV e1
  | true =>
  obtain ⟨x, hx, hx1, rfl⟩ := zth_of h1
  obtain ⟨y, hy, hy1, rfl⟩ := zth_of h2
  have hx8 : x < 8 := by omega
  have hy8 : y < 8 := by omega
  rw [h2, if_pos rfl, zS_ceq (by omega) (by omega)] at e1
  rw [if_neg (by decide)]
  by_cases h3 : x = y
  · rw [decide_eq_true h3, if_pos rfl] at e1
    rw [if_pos (by rw [h3])]
    exact zCAns_no hV e1
  rw [decide_eq_false h3, if_neg (by decide), zrg_ite l (by omega) (by omega)] at e1
  rw [if_neg (znI_ne (by omega) (by omega) h3)]
  cases h4 : zrg l (nI 0) (nI 99) with
  | false =>
    rw [h4, if_pos rfl] at e1
    exact zCAns_no hV e1
  | true =>
  obtain ⟨k, hk0, hk, rfl⟩ := zrg_of (v := l) (a := 0) (b := 99) (by omega) (by omega) h4
  have bl := zB_l hB hx8 hy8
  rw [h4, if_neg (by decide), zn_len hS hI hx8 hy8 h3] at e1
  simp only [Option.bind_some, zpush] at e1
  rw [zb_89_54, zS_cne (by omega) (by omega)] at e1
  rw [if_neg (by decide), zS_cl (show x < 2147483648 by omega), zS_cl (show y < 2147483648 by omega), zS_cl (show k < 2147483648 by omega)]
  by_cases h5 : zln m x y = k
  · rw [decide_eq_true h5, if_neg (by decide)] at e1
    rw [if_pos h5]
    exact zCAns_no hV e1
  obtain ⟨h', p1, p2, p3, p4⟩ := zn_remV hV hB
  rw [decide_eq_false h5, if_pos (by decide), p1] at e1
  rw [if_neg h5]
  simp only [Option.bind_some, zpush] at e1
  obtain ⟨g, g1, g2, g3⟩ := zn_put p2.1 hI hx8 hy8 h3 hk
  rw [zb_89_76, g1] at e1
  simp only [Option.bind_some, zpush] at e1
  rw [zb_89_89] at e1
  exact ⟨_, e1, zCV_now p2 g2 (fun b j hb => g3 b j (by omega)), fun b hb j => by rw [g3 b j (by omega)]; exact p3 b hb j⟩
theorem zmin99 : ∀ n, n < 300 → zmin (nI 99) (nI n) = nI (zcap n) := by decide +kernel
theorem zn_give {h : zHp} {m : Nat → Nat} {hs : List (Nat → Nat)} {sn : Option (Nat → Nat)} {tx : List Nat} (hV : zCV h m hs sn tx) (hI : zI m) (a b c l : Int32) : zCAns (zM_101 [.inr 0, .inl a, .inl b, .inl c, .inl l]) (zoGive m a b c l) h m hs sn tx := by
  have hS := hV.1
  have hB := hI.1
  have he := zB_ev hB
  have e1 := ze_101 a b c l h
  rw [zn_there hS hB] at e1
  simp only [Option.bind_some, zpush] at e1
  rw [zb_101_8, zS_b0] at e1
  unfold zoGive
  cases h1 : zth m a with
  | false =>
    rw [h1, if_pos (by decide)] at e1
    exact zCAns_no hV e1
  | true =>
  rw [h1, if_neg (by decide), zn_there hS hB] at e1
  simp only [Option.bind_some, zpush] at e1
  rw [zb_101_19, zS_b0] at e1
  rw [if_neg (by decide)]
  cases h2 : zth m b with
  | false =>
    rw [h2, if_pos (by decide)] at e1
    exact zCAns_no hV e1
  | true =>
  rw [h2, if_neg (by decide), zn_there hS hB] at e1
  simp only [Option.bind_some, zpush] at e1
  rw [zb_101_30, zS_b0n] at e1
  rw [if_neg (by decide)]
  cases h3 : zth m c with
  | false =>
    rw [h3, if_neg (by decide)] at e1
    exact zCAns_no hV e1
  | true =>
  obtain ⟨x, hx, hx1, rfl⟩ := zth_of h1
  obtain ⟨y, hy, hy1, rfl⟩ := zth_of h2
  obtain ⟨z, hz, hz1, rfl⟩ := zth_of h3
  have hx8 : x < 8 := by omega
  have hy8 : y < 8 := by omega
  have hz8 : z < 8 := by omega
  rw [h3, if_pos rfl, zS_ceq (show x < 2147483648 by omega) (show y < 2147483648 by omega), zS_ceq (show x < 2147483648 by omega) (show z < 2147483648 by omega), zS_ceq (show y < 2147483648 by omega) (show z < 2147483648 by omega), zrg_ite l (by omega) (by omega)] at e1
  rw [if_neg (by decide)]
  by_cases h4 : x = y
  · rw [decide_eq_true h4, if_pos rfl] at e1
    rw [if_pos (by rw [h4])]
    exact zCAns_no hV e1
  rw [decide_eq_false h4, if_neg (by decide)] at e1
  rw [if_neg (znI_ne (by omega) (by omega) h4)]
  by_cases h5 : x = z
  · rw [decide_eq_true h5, if_pos rfl] at e1
    rw [if_pos (by rw [h5])]
    exact zCAns_no hV e1
  rw [decide_eq_false h5, if_neg (by decide)] at e1
  rw [if_neg (znI_ne (by omega) (by omega) h5)]
  by_cases h6 : y = z
  · rw [decide_eq_true h6, if_pos rfl] at e1
    rw [if_pos (by rw [h6])]
    exact zCAns_no hV e1
  rw [decide_eq_false h6, if_neg (by decide)] at e1
  rw [if_neg (znI_ne (by omega) (by omega) h6)]
  cases h7 : zrg l (nI 1) (nI 99) with
  | false =>
    rw [h7, if_pos rfl] at e1
    exact zCAns_no hV e1
  | true =>
  obtain ⟨k, hk0, hk, rfl⟩ := zrg_of (v := l) (a := 1) (b := 99) (by omega) (by omega) h7
  have bl := zB_l hB hx8 hy8
  have bm := zB_l hB hx8 hz8
  rw [h7, if_neg (by decide), zn_len hS hI hx8 hy8 h4] at e1
  simp only [Option.bind_some, zpush] at e1
  rw [zb_101_78, zn_len hS hI hx8 hz8 h5] at e1
  simp only [Option.bind_some, zpush] at e1
  rw [zb_101_92, zS_ceq (show zln m x y < 2147483648 by omega) (by omega), zS_ceq (show zln m x z < 2147483648 by omega) (by omega), zS_cge (by omega) (by omega)] at e1
  rw [if_neg (by decide), zS_cl (show x < 2147483648 by omega), zS_cl (show y < 2147483648 by omega), zS_cl (show z < 2147483648 by omega), zS_cl (show k < 2147483648 by omega)]
  by_cases h8 : zln m x y = 0
  · rw [decide_eq_true h8, if_pos rfl] at e1
    rw [if_pos h8]
    exact zCAns_no hV e1
  rw [decide_eq_false h8, if_neg (by decide)] at e1
  rw [if_neg h8]
  by_cases h9 : zln m x z = 0
  · rw [decide_eq_true h9, if_pos rfl] at e1
    rw [if_pos h9]
    exact zCAns_no hV e1
  rw [decide_eq_false h9, if_neg (by decide)] at e1
  rw [if_neg h9]
  by_cases h10 : zln m x y < k
  · rw [decide_eq_false (by omega), if_neg (by decide)] at e1
    rw [if_pos h10]
    exact zCAns_no hV e1
  obtain ⟨h', p1, p2, p3, p4⟩ := zn_remV hV hB
  rw [decide_eq_true (by omega), if_pos rfl, p1] at e1
  rw [if_neg h10]
  simp only [Option.bind_some, zpush] at e1
  have hI2 : zI (zly m x y (zln m x y - k)) := zI_ly hI hx8 hy8 h4 (by omega) (fun _ => ⟨hx1, hy1⟩)
  obtain ⟨g, g1, g2, g3⟩ := zn_put (len := zln m x y - k) p2.1 hI hx8 hy8 h4 (by omega)
  obtain ⟨g', g4, g5, g6⟩ := zn_put (len := zcap (zln m x z + k)) g2 hI2 hx8 hz8 h5 (zcap_le _)
  rw [zb_101_125, zS_sub (by omega), g1] at e1
  simp only [Option.bind_some, zpush] at e1
  rw [zb_101_142, zS_add, zmin99 _ (by omega), g4] at e1
  simp only [Option.bind_some, zpush] at e1
  rw [zb_101_164, zS_sub (by omega)] at e1
  exact ⟨_, e1, zCV_now p2 g5 (fun b j hb => by rw [g6 b j (by omega), g3 b j (by omega)]), fun b hb j => by rw [g6 b j (by omega), g3 b j (by omega)]; exact p3 b hb j⟩
