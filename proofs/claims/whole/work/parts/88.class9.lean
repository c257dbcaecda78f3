/-! allow, type of the class. -/
theorem zrg_ci (v : Int32) {a b : Nat} (ha : a < 2147483648) (hb : b < 2147483648) (r : Bool) (h : zrg v (nI a) (nI b) = r) : (zci .lt v (nI a) = false ∧ zci .le v (nI b) = true) ↔ r = true := by
  subst h
  unfold zrg
  show (decide (v < nI a) = false ∧ decide (v ≤ nI b) = true) ↔ _
  simp only [decide_eq_false_iff_not, decide_eq_true_eq, Bool.and_eq_true, Bool.not_eq_true']
  constructor
  · rintro ⟨x, y⟩
    exact ⟨x, Int32.not_lt.mpr y⟩
  · rintro ⟨x, y⟩
    exact ⟨x, Int32.not_lt.mp y⟩
theorem zn_allow {h : zHp} {m : Nat → Nat} {hs : List (Nat → Nat)} {sn : Option (Nat → Nat)} {tx : List Nat} (hV : zCV h m hs sn tx) (hI : zI m) (c v : Int32) : zCAns (zM_78 [.inr 0, .inl c, .inl v]) (zoAllow m c v) h m hs sn tx := by
  have hS := hV.1
  have hB := hI.1
  have he := zB_ev hB
  have e1 := ze_78 c v h
  rw [zn_there hS hB] at e1
  simp only [Option.bind_some, zpush] at e1
  rw [zb_78_8, zS_b0n] at e1
  unfold zoAllow
  cases h1 : zth m c with
  | false =>
    rw [h1, if_neg (by decide)] at e1
    exact zCAns_no hV e1
  | true =>
  rw [h1, if_pos rfl] at e1
  rw [if_neg (by decide)]
  have hr := zrg_ci v (a := 1) (b := 15) (by omega) (by omega) _ rfl
  cases h2 : zrg v (nI 1) (nI 15) with
  | false =>
    rw [h2] at hr
    rw [if_pos rfl]
    cases h3 : zci .lt v (nI 1) with
    | true =>
      rw [h3, if_pos rfl] at e1
      exact zCAns_no hV e1
    | false =>
      rw [h3, if_neg (by decide)] at e1
      cases h4 : zci .le v (nI 15) with
      | true => exact absurd (hr.mp ⟨h3, h4⟩) (by decide)
      | false =>
        rw [h4, if_neg (by decide)] at e1
        exact zCAns_no hV e1
  | true =>
  rw [h2] at hr
  obtain ⟨h3, h4⟩ := hr.mpr rfl
  obtain ⟨n, hn, hn1, rfl⟩ := zth_of h1
  obtain ⟨k, hk, hk1, rfl⟩ := zrg_of (v := v) (a := 1) (b := 15) (by omega) (by omega) h2
  have tn := zt_of hn hn1
  have hn8 : n < 8 := by omega
  have b2 := zB_2 hB hn8
  have h3n : h 3 n = nI (zof m n 2) := (hS.2.1 n hn8 tn).2.1
  rw [h3, h4, if_neg (by decide), if_pos rfl, zS_ib _ (by omega), decide_eq_true hn8, if_pos rfl, zS_cl (by omega), h3n, zS_cne (by omega) (by omega)] at e1
  rw [if_neg (by decide), zS_cl (show n < 2147483648 by omega), zS_cl (show k < 2147483648 by omega)]
  by_cases h5 : zof m n 2 = k
  · rw [decide_eq_true h5, if_neg (by decide)] at e1
    rw [if_pos h5]
    exact zCAns_no hV e1
  obtain ⟨h', p1, p2, p3, p4⟩ := zn_remV hV hB
  rw [decide_eq_false h5, if_pos (by decide), p1] at e1
  rw [if_neg h5]
  simp only [Option.bind_some, zpush] at e1
  rw [zb_78_56, zS_ib _ (by omega), decide_eq_true hn8, if_pos rfl, zS_cl (by omega)] at e1
  exact ⟨_, e1, zCV_now p2 (zSr_fld p2.1 (w := 2) (v := k) hn8 (by omega) (by omega)) (fun b j hb => zS_zup_ne _ (by omega) _ _ _), zhi_up p3 (by omega) _ _⟩
theorem zn_type {h : zHp} {m : Nat → Nat} {hs : List (Nat → Nat)} {sn : Option (Nat → Nat)} {tx : List Nat} (hV : zCV h m hs sn tx) (x : Int32) : ∃ h', zM_122 [.inr 0, .inl x] h = some (some (if tx.length = 60 then -3 else nI (tx.length + 1)), h') ∧ zCV h' m hs sn (if tx.length = 60 then tx else tx ++ [ztc x]) ∧ zhi h h' := by
  obtain ⟨s, H, ⟨a1, a2⟩, b1, b2, b3⟩ := id hV
  have start := ze_122 x h
  rw [b1, zS_clt (by omega) (by omega)] at start
  by_cases h1 : tx.length = 60
  · rw [decide_eq_false (by omega), if_neg (by decide)] at start
    rw [if_pos h1, if_pos h1]
    exact ⟨h, start, hV, zhi_rf h⟩
  · rw [decide_eq_true (by omega), if_pos rfl, ze_121, b1, zS_cge (by omega) (by omega), decide_eq_false (by omega), if_neg (by decide), zS_ib _ (by omega), decide_eq_true (by omega), if_pos rfl, ztc_eq, zS_cl (by omega), zS_zup_ne _ (by omega), b1, zS_add] at start
    simp only [Option.bind_some, zpush] at start
    rw [zb_122_23, zS_zup_same] at start
    have hz : ∀ b j, b ≠ 58 → b ≠ 57 → zup (zup h 58 tx.length (nI (ztc x))) 57 0 (nI (tx.length + 1)) b j = h b j := fun b j hb hb2 => by rw [zS_zup_ne _ hb2, zS_zup_ne _ hb]
    rw [if_neg h1, if_neg h1]
    refine ⟨_, start, ⟨zSr_fr s (fun b j u w => hz b j (by omega) (by omega)), zCH_fr H (fun b j u w => hz b j (by omega) (by omega)), ⟨by rw [hz _ _ (by omega) (by omega), a1], fun y hy => zSr_fr (a2 y hy) (fun b j u w => hz b j (by omega) (by omega))⟩, by rw [zS_zup_same]; simp, by simp; omega, fun i y hy => ?_⟩, fun b hb j => hz b j (by omega) (by omega)⟩
    rw [zS_zup_ne _ (by omega)]
    by_cases hi : i = tx.length
    · subst hi
      rw [List.getElem?_append_right (by omega)] at hy
      simp at hy
      rw [zS_zup_same, hy]
    · have hlt := (List.getElem?_eq_some_iff.mp hy).1
      simp at hlt
      rw [List.getElem?_append_left (by omega)] at hy
      rw [zS_zup_nk _ _ hi]
      exact b3 i y hy
