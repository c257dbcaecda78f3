/-! undo, addCountry of the class. -/
theorem zn_undo0 {h : zHp} {m : Nat → Nat} {sn : Option (Nat → Nat)} {tx : List Nat} (hV : zCV h m [] sn tx) : zM_125 [.inr 0] h = some (some (-5), h) := by
  rw [ze_125, hV.2.1.1]
  rfl
theorem zn_undo {h : zHp} {m y : Nat → Nat} {hs : List (Nat → Nat)} {sn : Option (Nat → Nat)} {tx : List Nat} (hV : zCV h m (hs ++ [y]) sn tx) (hBy : zB y) : ∃ h', zM_125 [.inr 0] h = some (some (nI hs.length), h') ∧ zCV h' y hs sn tx ∧ zhi h h' := by
  obtain ⟨s, ⟨c1, c2, nx, c3, c4, c5⟩, ⟨a1, a2⟩, b1, b2, b3⟩ := hV
  have el : (hs ++ [y]).length = hs.length + 1 := by simp
  rw [el] at c1 c2
  have key : ∀ k, k < 4 → k = (nx + 3) % 4 → ∃ h', zM_64 [.inr 1, .inr (zHR 20 (nI k).toNatClampNeg)] (zup (zup h 19 1 (nI k)) 19 0 (nI hs.length)) = some (none, h') ∧ h' 19 0 = nI hs.length ∧ zCV h' y hs sn tx ∧ zhi h h' := by
    intro k hk hkn
    have hg : ∀ b j, b ≠ 19 → zup (zup h 19 1 (nI k)) 19 0 (nI hs.length) b j = h b j := fun b j hb => by rw [zS_zup_ne _ hb, zS_zup_ne _ hb]
    have g0 : zup (zup h 19 1 (nI k)) 19 0 (nI hs.length) 19 0 = nI hs.length := zS_zup_same _ _ _ _
    have g1 : zup (zup h 19 1 (nI k)) 19 0 (nI hs.length) 19 1 = nI k := by rw [zS_zup_nk _ _ (by omega), zS_zup_same]
    have hsl : 21 ≤ zsl k ∧ zsl k ≤ 48 := by unfold zsl; omega
    have hcf := (zcf_sl hk).2 (zup (zup h 19 1 (nI k)) 19 0 (nI hs.length))
    have hy : zSr h (zsl k) y := by
      have := c5 hs.length y (by simp)
      rw [el, show (nx + 4 - (hs.length + 1) + hs.length) % 4 = k by omega] at this
      exact this
    rw [zS_cl (show k < 2147483648 by omega), (zHR_at k hk).1]
    generalize zup (zup h 19 1 (nI k)) 19 0 (nI hs.length) = g at hg g0 g1 hcf ⊢
    have hSg : zSr g (zsl k) y := zSr_fr hy (fun b j x z => hg b j (by omega))
    obtain ⟨k1, k2⟩ := zc64_S (d := 1) (s := zsl k) (by omega) hBy hSg
    refine ⟨_, hcf, by rw [k2 _ _ (by omega), g0], ⟨k1, ⟨by rw [k2 _ _ (by omega), g0], by omega, k, hk, by rw [k2 _ _ (by omega), g1], fun i x hx => ?_⟩, ⟨by rw [k2 _ _ (by omega), hg _ _ (by omega), a1], fun x hx => zSr_fr (a2 x hx) (fun b j u w => by rw [k2 _ _ (by omega), hg _ _ (by omega)])⟩, by rw [k2 _ _ (by omega), hg _ _ (by omega), b1], b2, fun i x hx => by rw [k2 _ _ (by omega), hg _ _ (by omega), b3 i x hx]⟩, fun b hb j => by rw [k2 _ _ (by omega), hg _ _ (by omega)]⟩
    have hlt := (List.getElem?_eq_some_iff.mp hx).1
    have h5 := c5 i x (by rw [List.getElem?_append_left hlt]; exact hx)
    rw [el, show (nx + 4 - (hs.length + 1) + i) % 4 = (k + 4 - hs.length + i) % 4 by omega] at h5
    exact zSr_fr h5 (fun b j u w => by
      unfold zsl at u w
      rw [k2 _ _ (by omega), hg _ _ (by omega)])
  have start := ze_125 h
  rw [c1, zS_cne (by omega) (by omega), decide_eq_false (show ¬ hs.length + 1 = 0 by omega), Bool.not_false, if_pos rfl, ze_124, c1, zS_cle (by omega) (by omega), decide_eq_false (show ¬ hs.length + 1 ≤ 0 by omega), if_neg (by decide), c4, zS_cle (by omega) (by omega)] at start
  by_cases hn : nx = 0
  · rw [decide_eq_true (show nx ≤ 0 by omega), if_pos rfl, zS_zup_nk h 19 (show (0 : Nat) ≠ 1 by omega), c1, zS_sub (show 1 ≤ hs.length + 1 by omega), Nat.add_sub_cancel, zS_zup_nk (zup h 19 1 (nI 3)) 19 (show (1 : Nat) ≠ 0 by omega), zS_zup_same, zS_ib _ (by omega), decide_eq_true (by omega), if_pos rfl] at start
    obtain ⟨h', r1, r2, r3, r4⟩ := key 3 (by omega) (by omega)
    rw [r1] at start
    simp only [Option.bind_some, zpush] at start
    rw [zb_124_51] at start
    simp only [Option.bind_some, zpush] at start
    rw [zb_125_24, r2] at start
    exact ⟨h', start, r3, r4⟩
  · rw [decide_eq_false (show ¬ nx ≤ 0 by omega), if_neg (by decide), zS_sub (show 1 ≤ nx by omega), zS_zup_nk h 19 (show (0 : Nat) ≠ 1 by omega), c1, zS_sub (show 1 ≤ hs.length + 1 by omega), Nat.add_sub_cancel, zS_zup_nk (zup h 19 1 (nI (nx - 1))) 19 (show (1 : Nat) ≠ 0 by omega), zS_zup_same, zS_ib _ (by omega), decide_eq_true (by omega), if_pos rfl] at start
    obtain ⟨h', r1, r2, r3, r4⟩ := key (nx - 1) (by omega) (by omega)
    rw [r1] at start
    simp only [Option.bind_some, zpush] at start
    rw [zb_124_51] at start
    simp only [Option.bind_some, zpush] at start
    rw [zb_125_24, r2] at start
    exact ⟨h', start, r3, r4⟩
theorem zAdd_of {m : Nat → Nat} {c w : Nat} (he : zev8 m < 8) : (∀ d v, d < 8 → v < 5 → zof (zmAdd m c w) d v = if d = zev8 m then (if v = 0 then 1 else if v = 1 then c else if v = 2 then 15 else if v = 3 then w else 0) else zof m d v) ∧ (∀ k, 40 ≤ k → k ≠ 149 → zmAdd m c w k = m k) ∧ zev8 (zmAdd m c w) = zev8 m + 1 := by
  refine ⟨?_, ?_, ?_⟩
  · intro d v hd hv
    unfold zmAdd zof zu
    by_cases hq : d = zev8 m
    · rw [if_pos hq, if_neg (by omega)]
      subst hq
      rcases (show v = 0 ∨ v = 1 ∨ v = 2 ∨ v = 3 ∨ v = 4 by omega) with rfl | rfl | rfl | rfl | rfl
      · rw [if_neg (by omega), if_neg (by omega), if_neg (by omega), if_neg (by omega), if_pos (by omega)]; rfl
      · rw [if_neg (by omega), if_neg (by omega), if_neg (by omega), if_pos (by omega)]; rfl
      · rw [if_neg (by omega), if_neg (by omega), if_pos (by omega)]; rfl
      · rw [if_neg (by omega), if_pos (by omega)]; rfl
      · rw [if_pos (by omega)]; rfl
    · rw [if_neg hq, if_neg (by omega), if_neg (by omega), if_neg (by omega), if_neg (by omega), if_neg (by omega), if_neg (by omega)]
  · intro k hk hk2
    unfold zmAdd zu
    rw [if_neg (by omega), if_neg (by omega), if_neg (by omega), if_neg (by omega), if_neg (by omega), if_neg (by omega)]
  · simp only [zmAdd, zev8, zu, if_true]
theorem zAdd_t {m : Nat → Nat} {c w : Nat} (he : zev8 m < 8) (d : Nat) : zt (zmAdd m c w) d = (zt m d || decide (d = zev8 m)) := by
  obtain ⟨hof, hun, hev⟩ := zAdd_of (c := c) (w := w) he
  unfold zt
  rw [hev]
  by_cases h8 : d < zev8 m + 1
  · rw [decide_eq_true h8, hof d 0 (by omega) (by omega)]
    by_cases hd : d = zev8 m
    · rw [if_pos hd, decide_eq_true hd]
      simp
    · rw [if_neg hd, decide_eq_true (show d < zev8 m by omega), decide_eq_false hd]
      simp
  · rw [decide_eq_false h8, decide_eq_false (show ¬ d < zev8 m by omega), decide_eq_false (show ¬ d = zev8 m by omega)]
    rfl
theorem zt_no {m : Nat → Nat} {d : Nat} (h : zev8 m ≤ d) : zt m d = false := by
  unfold zt
  rw [decide_eq_false (by omega)]
  rfl
theorem zSr_add {h : zHp} {m : Nat → Nat} (hS : zSr h 1 m) (hI : zI m) {c w : Nat} (he : zev8 m < 8) : zSr (zup (zup (zup (zup (zup h 2 (zev8 m) (nI c)) 3 (zev8 m) (nI 15)) 4 (zev8 m) (nI w)) 1 1 (nI (zst m 0 ||| 2 ^ zev8 m))) 1 0 (nI (zev8 m + 1))) 1 (zmAdd m c w) := by
  obtain ⟨⟨s1, s2, s3⟩, s4, s5, s6, s7⟩ := hS
  have hn := zB_nb hI.1
  obtain ⟨hof, hun, hev⟩ := zAdd_of (c := c) (w := w) he
  have ht := zAdd_t (c := c) (w := w) he
  have e0 : zst (zmAdd m c w) 0 = zst m 0 ||| 2 ^ zev8 m := by
    apply Nat.eq_of_testBit_eq
    intro i
    rw [zst_bit, ht, Nat.testBit_or, zst_bit, Nat.testBit_two_pow]
    by_cases hi : i = zev8 m
    · rw [decide_eq_true hi, decide_eq_true hi.symm]
    · rw [decide_eq_false hi, decide_eq_false (fun e => hi e.symm)]
  have e1 : zst (zmAdd m c w) 1 = zst m 1 := by
    apply Nat.eq_of_testBit_eq
    intro i
    rw [zst1_bit, zst1_bit, ht]
    by_cases hi : i = zev8 m
    · rw [hof i 4 (by omega) (by omega), if_pos hi, zt_no (show zev8 m ≤ i by omega)]
      simp
    · rw [decide_eq_false hi, Bool.or_false]
      by_cases h8 : i < 8
      · rw [hof i 4 h8 (by omega), if_neg hi]
      · rw [zt_no (show zev8 m ≤ i by omega)]
        rfl
  have g1 : ∀ b j, b ≠ 1 → zup (zup (zup (zup (zup h 2 (zev8 m) (nI c)) 3 (zev8 m) (nI 15)) 4 (zev8 m) (nI w)) 1 1 (nI (zst m 0 ||| 2 ^ zev8 m))) 1 0 (nI (zev8 m + 1)) b j = zup (zup (zup h 2 (zev8 m) (nI c)) 3 (zev8 m) (nI 15)) 4 (zev8 m) (nI w) b j := fun b j hb => by rw [zS_zup_ne _ hb, zS_zup_ne _ hb]
  have g2 : ∀ b j, b ≠ 2 → b ≠ 3 → b ≠ 4 → zup (zup (zup h 2 (zev8 m) (nI c)) 3 (zev8 m) (nI 15)) 4 (zev8 m) (nI w) b j = h b j := fun b j x y z => by rw [zS_zup_ne _ z, zS_zup_ne _ y, zS_zup_ne _ x]
  refine ⟨⟨?_, ?_, ?_⟩, fun d hd htd => ?_, fun a ha => ?_, ?_, fun k hk => ?_⟩
  · rw [zS_zup_same, hev]
  · rw [zS_zup_nk _ _ (by omega), zS_zup_same, e0]
  · rw [zS_zup_nk _ _ (by omega), zS_zup_nk _ _ (by omega), g2 _ _ (by omega) (by omega) (by omega), s3, e1]
  · rw [hof d 1 hd (by omega), hof d 2 hd (by omega), hof d 3 hd (by omega)]
    by_cases hq : d = zev8 m
    · rw [if_pos hq, if_pos hq, if_pos hq, hq]
      refine ⟨?_, ?_, ?_⟩
      · rw [g1 _ _ (by omega), zS_zup_ne _ (by omega), zS_zup_ne _ (by omega), zS_zup_same]; rfl
      · rw [g1 _ _ (by omega), zS_zup_ne _ (by omega), zS_zup_same]; rfl
      · rw [g1 _ _ (by omega), zS_zup_same]; rfl
    · rw [if_neg hq, if_neg hq, if_neg hq]
      rw [ht, decide_eq_false hq, Bool.or_false] at htd
      obtain ⟨x1, x2, x3⟩ := s4 d hd htd
      refine ⟨?_, ?_, ?_⟩
      · rw [g1 _ _ (by omega), zS_zup_ne _ (by omega), zS_zup_ne _ (by omega), zS_zup_nk _ _ hq]; exact x1
      · rw [g1 _ _ (by omega), zS_zup_ne _ (by omega), zS_zup_nk _ _ hq, zS_zup_ne _ (by omega)]; exact x2
      · rw [g1 _ _ (by omega), zS_zup_nk _ _ hq, zS_zup_ne _ (by omega), zS_zup_ne _ (by omega)]; exact x3
  · have : zfbs (zmAdd m c w) a = zfbs m a := by
      apply Nat.eq_of_testBit_eq
      intro i
      unfold zfbs
      rw [zset8_bit, zset8_bit]
      by_cases hi : i < 4
      · rw [show zbd (zmAdd m c w) a i = zbd m a i from hun _ (by omega) (by omega)]
      · rw [decide_eq_false (show ¬ i < 0 + 4 by omega)]
        simp
    rw [this, g1 _ _ (by omega), g2 _ _ (by omega) (by omega) (by omega)]
    exact s5 a ha
  · rw [show znb (zmAdd m c w) = znb m from hun _ (by omega) (by omega), g1 _ _ (by omega), g2 _ _ (by omega) (by omega) (by omega)]
    exact s6
  · rw [show znb (zmAdd m c w) = znb m from hun _ (by omega) (by omega)] at hk
    obtain ⟨x1, x2, x3⟩ := s7 k hk
    have hod : zod (zmAdd m c w) k = zod m k := hun _ (by omega) (by omega)
    obtain ⟨lo, hi, p1, p2, p3, p4⟩ := hI.2.2.2.2.2.2.2.1 k hk
    have hln : zln (zmAdd m c w) (zod m k / 10) (zod m k % 10) = zln m (zod m k / 10) (zod m k % 10) := hun _ (by omega) (by omega)
    rw [hod, hln]
    refine ⟨?_, ?_, ?_⟩
    · rw [g1 _ _ (by omega), g2 _ _ (by omega) (by omega) (by omega)]; exact x1
    · rw [g1 _ _ (by omega), g2 _ _ (by omega) (by omega) (by omega)]; exact x2
    · rw [g1 _ _ (by omega), g2 _ _ (by omega) (by omega) (by omega)]; exact x3
theorem zn_add1 {h : zHp} {m : Nat → Nat} (hS : zSr h 1 m) {c w : Nat} (he : zev8 m < 8) : zM_67 [.inr 1, .inl (nI c), .inl (nI w)] h = some (some (nI (zev8 m)), zup (zup (zup (zup (zup h 2 (zev8 m) (nI c)) 3 (zev8 m) (nI 15)) 4 (zev8 m) (nI w)) 1 1 (nI (zst m 0 ||| 2 ^ zev8 m))) 1 0 (nI (zev8 m + 1))) := by
  have s1 : h 1 0 = nI (zev8 m) := hS.1.1
  have s2 : h 1 1 = nI (zst m 0) := hS.1.2.1
  have hn : znum (nI (zev8 m)) = true := by
    unfold znum
    rw [decide_eq_false (show ¬ nI (zev8 m) < nI 0 from nI_pos (by omega)), zS_cl (by omega), decide_eq_true he]
    rfl
  rw [ze_67, s1, zn_num, hn]
  simp only [Option.bind_some, zpush]
  have r1 : zup (zup (zup h 2 (zev8 m) (nI c)) 3 (zev8 m) (nI 15)) 4 (zev8 m) (nI w) 1 1 = nI (zst m 0) := by rw [zS_zup_ne _ (by omega), zS_zup_ne _ (by omega), zS_zup_ne _ (by omega), s2]
  have r2 : ∀ v, zup (zup (zup (zup h 2 (zev8 m) (nI c)) 3 (zev8 m) (nI 15)) 4 (zev8 m) (nI w)) 1 1 v 1 0 = nI (zev8 m) := fun v => by rw [zS_zup_nk _ _ (by omega), zS_zup_ne _ (by omega), zS_zup_ne _ (by omega), zS_zup_ne _ (by omega), s1]
  rw [zb_67_9, zS_b0n, if_pos rfl, zS_ib _ (by omega), decide_eq_true he, if_pos rfl, if_pos rfl, if_pos rfl, zS_cl (by omega), r1, zS_shl1 _ (by omega), zS_or, r2, zS_add]
theorem zn_add {h : zHp} {m : Nat → Nat} {hs : List (Nat → Nat)} {sn : Option (Nat → Nat)} {tx : List Nat} (hV : zCV h m hs sn tx) (hI : zI m) (c w : Int32) : zCAns (zM_68 [.inr 0, .inl c, .inl w]) (zoAdd m c w) h m hs sn tx := by
  have hS := hV.1
  have hB := hI.1
  have he := zB_ev hB
  have hn28 := zB_nb hB
  have e1 := ze_68 c w h
  rw [zn_col] at e1
  simp only [Option.bind_some, zpush] at e1
  rw [zb_68_4, zS_b0] at e1
  unfold zoAdd
  cases h1 : zcol c with
  | false =>
    rw [h1, if_pos (by decide)] at e1
    exact zCAns_no hV e1
  | true =>
  rw [h1, if_neg (by decide)] at e1
  rw [if_neg (by decide)]
  have hr := zrg_ci w (a := 1) (b := 99) (by omega) (by omega) _ rfl
  cases h2 : zrg w (nI 1) (nI 99) with
  | false =>
    rw [h2] at hr
    rw [if_pos rfl]
    cases h3 : zci .lt w (nI 1) with
    | true =>
      rw [h3, if_pos rfl] at e1
      exact zCAns_no hV e1
    | false =>
      rw [h3, if_neg (by decide)] at e1
      cases h4 : zci .le w (nI 99) with
      | true => exact absurd (hr.mp ⟨h3, h4⟩) (by decide)
      | false =>
        rw [h4, if_neg (by decide)] at e1
        exact zCAns_no hV e1
  | true =>
  rw [h2] at hr
  obtain ⟨h3, h4⟩ := hr.mpr rfl
  obtain ⟨k, hk, rfl⟩ := zcol_of h1
  obtain ⟨x, hx, hx1, rfl⟩ := zrg_of (v := w) (a := 1) (b := 99) (by omega) (by omega) h2
  rw [h3, h4, if_neg (by decide), if_pos rfl, show h 1 0 = nI (zev8 m) from hS.1.1, zS_clt (by omega) (by omega)] at e1
  rw [if_neg (by decide), zS_cl (show k < 2147483648 by omega), zS_cl (show x < 2147483648 by omega)]
  by_cases h5 : zev8 m = 8
  · rw [decide_eq_false (by omega), if_neg (by decide)] at e1
    rw [if_pos h5]
    exact zCAns_no hV e1
  obtain ⟨h', p1, p2, p3, p4⟩ := zn_remV hV hB
  rw [decide_eq_true (show zev8 m < 8 by omega), if_pos rfl, p1] at e1
  rw [if_neg h5]
  simp only [Option.bind_some, zpush] at e1
  rw [zb_68_47, zn_add1 p2.1 (show zev8 m < 8 by omega)] at e1
  simp only [Option.bind_some, zpush] at e1
  rw [zb_68_56] at e1
  refine ⟨_, e1, zCV_now p2 (zSr_add p2.1 hI (by omega)) (fun b j hb => ?_), zhi_up (zhi_up (zhi_up (zhi_up (zhi_up p3 (by omega) _ _) (by omega) _ _) (by omega) _ _) (by omega) _ _) (by omega) _ _⟩
  rw [zS_zup_ne _ (by omega), zS_zup_ne _ (by omega), zS_zup_ne _ (by omega), zS_zup_ne _ (by omega), zS_zup_ne _ (by omega)]
