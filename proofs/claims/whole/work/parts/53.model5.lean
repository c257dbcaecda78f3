/-! allow, fix, addCountry, forbid of the reference. -/
/-- whether a number is from a to b -/
def zrg (v a b : Int32) : Bool := !decide (v < a) && !decide (b < v)
theorem zrg_of {v : Int32} {a b : Nat} (ha : a < 2147483648) (hb : b < 2147483648) (h : zrg v (nI a) (nI b) = true) : ∃ n, a ≤ n ∧ n ≤ b ∧ v = nI n := by
  unfold zrg at h
  simp only [Bool.and_eq_true, Bool.not_eq_true', decide_eq_false_iff_not] at h
  have h0 : ¬ v < 0 := fun q => h.1 (by
    rw [Int32.lt_iff_toInt_lt] at q ⊢
    rw [nI_toInt ha]
    have : (0 : Int32).toInt = 0 := rfl
    omega)
  obtain ⟨j, hj, rfl⟩ := nI_of (x := v) h0
  refine ⟨j, ?_, ?_, rfl⟩
  · have h2 := h.1
    rw [nI_ltI (by omega) (by omega)] at h2
    omega
  · have h2 := h.2
    rw [nI_ltI (by omega) (by omega)] at h2
    omega
def zoAllow (m : Nat → Nat) (c v : Int32) : Int32 × Option (Nat → Nat) :=
  if zth m c = false then (-1, none) else if zrg v (nI 1) (nI 15) = false then (-2, none) else if zof m c.toNatClampNeg 2 = v.toNatClampNeg then (-5, none)
  else (nI (zof m c.toNatClampNeg 2), some (zu m (5 * c.toNatClampNeg + 2) v.toNatClampNeg))
theorem zI_allow {m : Nat → Nat} (h : zI m) (c v : Int32) (m' : Nat → Nat) (hm : (zoAllow m c v).2 = some m') : zI m' := by
  unfold zoAllow at hm
  split at hm
  · cases hm
  · rename_i h1
    split at hm
    · cases hm
    · rename_i h2
      split at hm
      · cases hm
      · cases hm
        have he := zB_ev h.1
        obtain ⟨n, hn, -, rfl⟩ := zth_of (by simpa using h1)
        obtain ⟨k, hk1, hk, rfl⟩ := zrg_of (v := v) (a := 1) (b := 15) (by omega) (by omega) (by simpa using h2)
        rw [zS_cl (by omega), zS_cl (by omega)]
        exact zI_field (by omega) (by omega) (by omega) ⟨fun q => by omega, fun q => by omega, fun q => by omega, fun q => by omega⟩ h
theorem zm_allow {h : zHp} {m : Nat → Nat} {hs : List (Nat → Nat)} {sn : Option (Nat → Nat)} {tx : List Nat} (hV : zMV h m hs sn tx) (hI : zI m) (c v : Int32) : zAns (zM_15 [.inr 76, .inl c, .inl v]) (zoAllow m c v) h m hs sn tx := by
  have hR := hV.1
  have hB := hI.1
  have he := zB_ev hB
  have e1 := ze_15 c v h
  rw [zm_no hR hB] at e1
  simp only [Option.bind_some, zpush] at e1
  rw [zb_15_5, zS_b0] at e1
  unfold zoAllow
  cases h1 : zth m c with
  | false =>
    rw [h1, if_neg (by decide)] at e1
    exact zAns_no hV e1
  | true =>
    rw [h1, if_pos (by decide), zm_in] at e1
    simp only [Option.bind_some, zpush] at e1
    rw [zb_15_17, zS_b0n] at e1
    rw [if_neg (by decide)]
    cases h2 : zrg v (nI 1) (nI 15) with
    | false =>
      unfold zrg at h2
      rw [h2, if_neg (by decide)] at e1
      exact zAns_no hV e1
    | true =>
      obtain ⟨n, hn, -, rfl⟩ := zth_of h1
      obtain ⟨k, hk1, hk, rfl⟩ := zrg_of (by omega) (by omega) h2
      have hf2 := zB_2 hB (show n < 8 by omega)
      unfold zrg at h2
      rw [h2, if_pos rfl, zm_of hR (by omega)] at e1
      simp only [Option.bind_some, zpush] at e1
      rw [zb_15_29, zS_cne (by omega) (by omega)] at e1
      rw [if_neg (by decide), zS_cl (show n < 2147483648 by omega), zS_cl (show k < 2147483648 by omega)]
      by_cases h4 : zof m n 2 = k
      · rw [decide_eq_true h4, if_neg (by decide)] at e1
        rw [if_pos h4]
        exact zAns_no hV e1
      · rw [if_neg h4]
        obtain ⟨h', p1, p2, p3⟩ := zm_recV hV
        rw [decide_eq_false h4, if_pos (by decide), p1] at e1
        simp only [Option.bind_some, zpush] at e1
        rw [zb_15_42, zm_puts _ (by omega)] at e1
        simp only [Option.bind_some, zpush] at e1
        rw [zb_15_49] at e1
        exact ⟨_, e1, zMV_up p2 (5 * n + 2) k, zlo_up p3 (by omega) _ _⟩
theorem zst_lt {m : Nat → Nat} (he : zev8 m ≤ 8) (w : Nat) : zst m w < 256 := zset8_lt _ he
def zoFix (m : Nat → Nat) (c : Int32) (b : Bool) : Int32 × Option (Nat → Nat) :=
  if zth m c = false then (-1, none) else if decide (zof m c.toNatClampNeg 4 = 1) = b then (-5, none)
  else (nI (zbits (zst (zu m (5 * c.toNatClampNeg + 4) b.toNat) 1)), some (zu m (5 * c.toNatClampNeg + 4) b.toNat))
theorem zI_fix {m : Nat → Nat} (h : zI m) (c : Int32) (b : Bool) (m' : Nat → Nat) (hm : (zoFix m c b).2 = some m') : zI m' := by
  unfold zoFix at hm
  split at hm
  · cases hm
  · rename_i h1
    split at hm
    · cases hm
    · cases hm
      have he := zB_ev h.1
      obtain ⟨n, hn, hn2, rfl⟩ := zth_of (by simpa using h1)
      rw [zS_cl (by omega)]
      exact zI_field (by omega) (by omega) (by omega) ⟨fun q => by omega, fun q => by omega, fun q => by omega, fun _ => ⟨by cases b <;> simp, fun _ => hn2⟩⟩ h
theorem zm_fix {h : zHp} {m : Nat → Nat} {hs : List (Nat → Nat)} {sn : Option (Nat → Nat)} {tx : List Nat} (hV : zMV h m hs sn tx) (hI : zI m) (c : Int32) (b : Bool) : zAns (zM_18 [.inr 76, .inl c, .inl (nI b.toNat)]) (zoFix m c b) h m hs sn tx := by
  have hR := hV.1
  have hB := hI.1
  have he := zB_ev hB
  have e1 := ze_18 c (nI b.toNat) h
  rw [zm_no hR hB] at e1
  simp only [Option.bind_some, zpush] at e1
  rw [zb_18_5, zS_b0] at e1
  have hI2 := zI_fix hI c b
  unfold zoFix at hI2 ⊢
  cases h1 : zth m c with
  | false =>
    rw [h1, if_neg (by decide)] at e1
    exact zAns_no hV e1
  | true =>
    obtain ⟨n, hn, -, rfl⟩ := zth_of h1
    have hf4 := zB_4 hB (show n < 8 by omega)
    rw [h1, if_pos (by decide), zm_of hR (by omega)] at e1
    simp only [Option.bind_some, zpush] at e1
    rw [zb_18_16, zS_cne (by omega) (by omega)] at e1
    rw [h1, if_neg (by decide), zS_cl (show n < 2147483648 by omega)] at hI2
    rw [if_neg (by decide), zS_cl (show n < 2147483648 by omega)]
    have e2 : zci .ne (nI 0) (nI b.toNat) = b := by cases b <;> decide
    have e3 : zci .ne (nI 1) (nI b.toNat) = !b := by cases b <;> decide
    rw [e2, e3] at e1
    have fin : ¬ decide (zof m n 4 = 1) = b → zM_18 [.inr 76, .inl (nI n), .inl (nI b.toNat)] h = (zM_2 [.inr 76] h).bind (fun r => zr_18 36 [some (.inr 76), some (.inl (nI n)), some (.inl (nI b.toNat))] (zpush r.1 []) r.2) → zAns (zM_18 [.inr 76, .inl (nI n), .inl (nI b.toNat)]) (nI (zbits (zst (zu m (5 * n + 4) b.toNat) 1)), some (zu m (5 * n + 4) b.toNat)) h m hs sn tx := by
      intro h4 e1
      rw [if_neg h4] at hI2
      obtain ⟨h', p1, p2, p3⟩ := zm_recV hV
      rw [p1] at e1
      simp only [Option.bind_some, zpush] at e1
      rw [zb_18_36] at e1
      have e5 : zM_3 [.inr 76, .inl (nI n), .inl (nI 4), .inl (nI b.toNat)] h' = some (none, zup h' 77 (5 * n + 4) (nI b.toNat)) := zm_puts _ (by omega)
      have e6 : zM_18 [.inr 76, .inl (nI n), .inl (nI b.toNat)] h = zr_18 51 [some (.inr 76), some (.inl (nI n)), some (.inl (nI b.toNat))] [] (zup h' 77 (5 * n + 4) (nI b.toNat)) := by
        rw [e1, zS_b0]
        cases b with
        | false =>
          rw [if_pos (by decide)]
          rw [show nI false.toNat = nI 0 from rfl] at e5 ⊢
          rw [e5]
          rfl
        | true =>
          rw [if_neg (by decide)]
          rw [show nI true.toNat = nI 1 from rfl] at e5 ⊢
          rw [e5]
          rfl
      have hV2 := zMV_up p2 (5 * n + 4) b.toNat
      have hI3 := hI2 _ rfl
      have he3 := zB_ev hI3.1
      rw [zb_18_51, zm_set hV2.1 hI3.1 (by omega)] at e6
      simp only [Option.bind_some, zpush] at e6
      rw [zb_18_56, zm_bits _ (zst_lt he3 1)] at e6
      simp only [Option.bind_some, zpush] at e6
      rw [zb_18_59] at e6
      exact ⟨_, e6, hV2, zlo_up p3 (by omega) _ _⟩
    by_cases h3 : zof m n 4 = 1
    · rw [decide_eq_true h3, if_neg (by decide)] at e1
      cases b with
      | true =>
        rw [if_neg (by decide)] at e1
        rw [decide_eq_true h3, if_pos rfl]
        exact zAns_no hV e1
      | false =>
        rw [if_pos (by decide)] at e1
        rw [decide_eq_true h3, if_neg (by decide)]
        exact fin (by rw [decide_eq_true h3]; decide) e1
    · rw [decide_eq_false h3, if_pos (by decide)] at e1
      cases b with
      | false =>
        rw [if_neg (by decide)] at e1
        rw [decide_eq_false h3, if_pos rfl]
        exact zAns_no hV e1
      | true =>
        rw [if_pos rfl] at e1
        rw [decide_eq_false h3, if_neg (by decide)]
        exact fin (by rw [decide_eq_false h3]; decide) e1
theorem zu_same (m : Nat → Nat) (k x : Nat) : zu m k x k = x := by simp [zu]
theorem zu_ne (m : Nat → Nat) {k j : Nat} (hj : j ≠ k) (x : Nat) : zu m k x j = m j := by simp [zu, hj]
/-- the row with one country more -/
def zmAdd (m : Nat → Nat) (c w : Nat) : Nat → Nat := zu (zu (zu (zu (zu (zu m (5 * zev8 m + 0) 1) (5 * zev8 m + 1) c) (5 * zev8 m + 2) 15) (5 * zev8 m + 3) w) (5 * zev8 m + 4) 0) 149 (zev8 m + 1)
theorem zI_addM {m : Nat → Nat} (h : zI m) {c w : Nat} (hc : c < 4) (hw : w ≤ 99) (he : zev8 m < 8) : zI (zmAdd m c w) := by
  obtain ⟨⟨b1, b2, b3, b4, b5⟩, i1, i2, i3, i4, i5, i6, i7⟩ := h
  have hof : ∀ d v, d < 8 → v < 5 → zof (zmAdd m c w) d v = if d = zev8 m then (if v = 0 then 1 else if v = 1 then c else if v = 2 then 15 else if v = 3 then w else 0) else zof m d v := by
    intro d v hd hv
    unfold zmAdd zof zu
    by_cases hq : d = zev8 m
    · rw [if_pos hq, if_neg (by omega)]
      subst hq
      rcases (show v = 0 ∨ v = 1 ∨ v = 2 ∨ v = 3 ∨ v = 4 by omega) with rfl | rfl | rfl | rfl | rfl
      · rw [if_neg (by omega), if_neg (by omega), if_neg (by omega), if_neg (by omega), if_pos (by omega)]; rfl
      · rw [if_neg (by omega), if_neg (by omega), if_neg (by omega), if_pos (by omega)]; rfl
      · rw [if_neg (by omega), if_neg (by omega), if_pos (by omega)]; rfl
      · rw [if_neg (by omega), if_pos (by omega)]; rfl
      · rw [if_pos (by omega)]; rfl
    · rw [if_neg hq, if_neg (by omega), if_neg (by omega), if_neg (by omega), if_neg (by omega), if_neg (by omega), if_neg (by omega)]
  have hun : ∀ k, 40 ≤ k → k ≠ 149 → zmAdd m c w k = m k := by
    intro k hk hk2
    unfold zmAdd zu
    rw [if_neg (by omega), if_neg (by omega), if_neg (by omega), if_neg (by omega), if_neg (by omega), if_neg (by omega)]
  have hln : ∀ a b, a < 8 → b < 8 → zln (zmAdd m c w) a b = zln m a b := fun a b ha hb => hun _ (by omega) (by omega)
  have hbd : ∀ a b, a < 4 → b < 4 → zbd (zmAdd m c w) a b = zbd m a b := fun a b ha hb => hun _ (by omega) (by omega)
  have hod : ∀ k, k < 28 → zod (zmAdd m c w) k = zod m k := fun k hk => hun _ (by omega) (by omega)
  have hnb : znb (zmAdd m c w) = znb m := hun _ (by omega) (by omega)
  have hev : zev8 (zmAdd m c w) = zev8 m + 1 := by
    simp only [zmAdd, zev8, zu, if_true]
  obtain ⟨o1, o2, o3⟩ := i7
  refine ⟨⟨by omega, by omega, fun d hd => ?_, fun a b ha hb => by rw [hln a b ha hb]; exact b4 a b ha hb, fun a b ha hb => by rw [hbd a b ha hb]; exact b5 a b ha hb⟩, fun d hd hq => ?_, fun d hd hq => ?_, fun a b ha hb => by rw [hln a b ha hb, hln b a hb ha]; exact i3 a b ha hb, fun a ha => by rw [hln a a ha ha]; exact i4 a ha, fun a b ha hb hl => ?_, fun a b ha hb => by rw [hbd a b ha hb, hbd b a hb ha]; exact i6 a b ha hb, ?_, ?_, ?_⟩
  · obtain ⟨q0, q1, q2, q3, q4⟩ := b3 d hd
    rw [hof d 0 hd (by omega), hof d 1 hd (by omega), hof d 2 hd (by omega), hof d 3 hd (by omega), hof d 4 hd (by omega)]
    by_cases hq : d = zev8 m
    · simp only [if_pos hq]
      simp
      omega
    · simp only [if_neg hq]
      exact ⟨q0, q1, q2, q3, q4⟩
  · rw [hev] at hq
    rw [hof d 0 hd (by omega), if_neg (by omega)]
    exact i1 d hd (by omega)
  · rw [hof d 4 hd (by omega)] at hq
    rw [hof d 0 hd (by omega)]
    by_cases hz : d = zev8 m
    · rw [if_pos hz, if_pos rfl]
    · rw [if_neg hz] at hq ⊢
      exact i2 d hd hq
  · rw [hln a b ha hb] at hl
    rw [hof a 0 ha (by omega)]
    have := i5 a b ha hb hl
    by_cases hz : a = zev8 m
    · rw [if_pos hz, if_pos rfl]
    · rw [if_neg hz]
      exact this
  · intro k hk
    rw [hnb] at hk
    obtain ⟨lo, hi, p1, p2, p3, p4⟩ := o1 k hk
    exact ⟨lo, hi, p1, p2, by rw [hod k (by omega)]; exact p3, by rw [hln lo hi (by omega) p2]; exact p4⟩
  · intro j k hj hk hq
    rw [hnb] at hj hk
    rw [hod j (by omega), hod k (by omega)] at hq
    exact o2 j k hj hk hq
  · intro lo hi hl hh hq
    rw [hln lo hi (by omega) hh] at hq
    obtain ⟨k, p1, p2⟩ := o3 lo hi hl hh hq
    exact ⟨k, by rw [hnb]; exact p1, by rw [hod k (by omega)]; exact p2⟩
def zoAdd (m : Nat → Nat) (c w : Int32) : Int32 × Option (Nat → Nat) :=
  if zcol c = false then (-2, none) else if zrg w (nI 1) (nI 99) = false then (-2, none) else if zev8 m = 8 then (-3, none)
  else (nI (zev8 m), some (zmAdd m c.toNatClampNeg w.toNatClampNeg))
theorem zI_add {m : Nat → Nat} (h : zI m) (c w : Int32) (m' : Nat → Nat) (hm : (zoAdd m c w).2 = some m') : zI m' := by
  unfold zoAdd at hm
  split at hm
  · cases hm
  · rename_i h1
    split at hm
    · cases hm
    · rename_i h2
      split at hm
      · cases hm
      · cases hm
        have he := zB_ev h.1
        obtain ⟨n, hn, rfl⟩ := zcol_of (by simpa using h1)
        obtain ⟨k, hk1, hk, rfl⟩ := zrg_of (v := w) (a := 1) (b := 99) (by omega) (by omega) (by simpa using h2)
        rw [zS_cl (by omega), zS_cl (by omega)]
        exact zI_addM h hn hk (by omega)
theorem zm_add {h : zHp} {m : Nat → Nat} {hs : List (Nat → Nat)} {sn : Option (Nat → Nat)} {tx : List Nat} (hV : zMV h m hs sn tx) (hI : zI m) (c w : Int32) : zAns (zM_4 [.inr 76, .inl c, .inl w]) (zoAdd m c w) h m hs sn tx := by
  have hR := hV.1
  have hB := hI.1
  have he := zB_ev hB
  have e1 := ze_4 c w h
  rw [zm_col] at e1
  simp only [Option.bind_some, zpush] at e1
  rw [zb_4_4, zS_b0] at e1
  unfold zoAdd
  cases h1 : zcol c with
  | false =>
    rw [h1, if_pos (by decide)] at e1
    exact zAns_no hV e1
  | true =>
    rw [h1, if_neg (by decide), zm_in] at e1
    simp only [Option.bind_some, zpush] at e1
    rw [zb_4_14, zS_b0n] at e1
    rw [if_neg (by decide)]
    cases h2 : zrg w (nI 1) (nI 99) with
    | false =>
      unfold zrg at h2
      rw [h2, if_neg (by decide)] at e1
      exact zAns_no hV e1
    | true =>
      obtain ⟨n, hn, rfl⟩ := zcol_of h1
      obtain ⟨k, hk1, hk, rfl⟩ := zrg_of (by omega) (by omega) h2
      unfold zrg at h2
      rw [h2, if_pos rfl, zg149, if_pos rfl, zR_149 hR, zS_cne (by omega) (by omega)] at e1
      rw [if_neg (by decide), zS_cl (show n < 2147483648 by omega), zS_cl (show k < 2147483648 by omega)]
      by_cases h4 : zev8 m = 8
      · rw [decide_eq_true h4, if_neg (by decide)] at e1
        rw [if_pos h4]
        exact zAns_no hV e1
      · rw [if_neg h4]
        obtain ⟨h', p1, p2, p3⟩ := zm_recV hV
        rw [decide_eq_false h4, if_pos (by decide), p1] at e1
        simp only [Option.bind_some, zpush] at e1
        rw [zb_4_42, zm_puts _ (by omega)] at e1
        simp only [Option.bind_some, zpush] at e1
        rw [zb_4_49, zm_puts _ (by omega)] at e1
        simp only [Option.bind_some, zpush] at e1
        rw [zb_4_56, zm_puts _ (by omega)] at e1
        simp only [Option.bind_some, zpush] at e1
        rw [zb_4_64, zm_puts _ (by omega)] at e1
        simp only [Option.bind_some, zpush] at e1
        rw [zb_4_71, zm_puts _ (by omega)] at e1
        simp only [Option.bind_some, zpush] at e1
        have hV2 := zMV_up (zMV_up (zMV_up (zMV_up (zMV_up p2 (5 * zev8 m + 0) 1) (5 * zev8 m + 1) n) (5 * zev8 m + 2) 15) (5 * zev8 m + 3) k) (5 * zev8 m + 4) 0
        rw [zb_4_78, zg149, if_pos rfl, if_pos rfl, zR_149 hV2.1, zS_cl (by omega)] at e1
        have e9 : zev8 (zu (zu (zu (zu (zu m (5 * zev8 m + 0) 1) (5 * zev8 m + 1) n) (5 * zev8 m + 2) 15) (5 * zev8 m + 3) k) (5 * zev8 m + 4) 0) = zev8 m := by
          rw [zev_u _ (by omega), zev_u _ (by omega), zev_u _ (by omega), zev_u _ (by omega), zev_u _ (by omega)]
        rw [e9, zS_add] at e1
        exact ⟨_, e1, zMV_up hV2 149 (zev8 m + 1), zlo_up (zlo_up (zlo_up (zlo_up (zlo_up (zlo_up p3 (by omega) _ _) (by omega) _ _) (by omega) _ _) (by omega) _ _) (by omega) _ _) (by omega) _ _⟩
