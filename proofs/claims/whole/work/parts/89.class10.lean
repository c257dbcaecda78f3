/-! fix of the class. -/
theorem zst1_fix {m : Nat → Nat} {c : Nat} (hc : c < 8) (hB : zB m) (ht : zt m c = true) {b : Bool} (hb : decide (zof m c 4 = 1) ≠ b) : (zst m 1) ^^^ 2 ^ c = zst (zu m (5 * c + 4) b.toNat) 1 := by
  have hof : ∀ d x, x < 5 → zof (zu m (5 * c + 4) b.toNat) d x = if d = c ∧ x = 4 then b.toNat else zof m d x := fun d x hx => zof_u _ hc (by omega) hx
  have hev : zev8 (zu m (5 * c + 4) b.toNat) = zev8 m := zev_u _ (by omega)
  have htt : ∀ d, zt (zu m (5 * c + 4) b.toNat) d = zt m d := fun d => by
    unfold zt
    rw [hev, hof d 0 (by omega), if_neg (by omega)]
  apply Nat.eq_of_testBit_eq
  intro i
  rw [Nat.testBit_xor, zst1_bit, zst1_bit, htt, Nat.testBit_two_pow, hof i 4 (by omega)]
  by_cases hi : i = c
  · subst hi
    rw [ht, decide_eq_true rfl, if_pos ⟨rfl, rfl⟩]
    cases b with
    | false =>
      have : decide (zof m i 4 = 1) = true := by simpa using hb
      rw [this]
      rfl
    | true =>
      have : decide (zof m i 4 = 1) = false := by simpa using hb
      rw [this]
      rfl
  · rw [decide_eq_false (show ¬ c = i from fun e => hi e.symm), if_neg (fun e => hi e.1)]
    simp
theorem zSr_fix {h : zHp} {m : Nat → Nat} (hS : zSr h 1 m) {c : Nat} (hc : c < 8) (hB : zB m) (ht : zt m c = true) {b : Bool} (hb : decide (zof m c 4 = 1) ≠ b) : zSr (zup h 1 2 (nI (zst (zu m (5 * c + 4) b.toNat) 1))) 1 (zu m (5 * c + 4) b.toNat) := by
  obtain ⟨⟨s1, s2, s3⟩, s4, s5, s6, s7⟩ := hS
  have hof : ∀ d x, x < 5 → zof (zu m (5 * c + 4) b.toNat) d x = if d = c ∧ x = 4 then b.toNat else zof m d x := fun d x hx => zof_u _ hc (by omega) hx
  have hev : zev8 (zu m (5 * c + 4) b.toNat) = zev8 m := zev_u _ (by omega)
  have htt : ∀ d, zt (zu m (5 * c + 4) b.toNat) d = zt m d := fun d => by
    unfold zt
    rw [hev, hof d 0 (by omega), if_neg (by omega)]
  have hst : zst (zu m (5 * c + 4) b.toNat) 0 = zst m 0 := by
    apply Nat.eq_of_testBit_eq
    intro i
    rw [zst_bit, zst_bit, htt]
  have hod : ∀ k, zod (zu m (5 * c + 4) b.toNat) k = zod m k := fun k => zod_u _ (by omega) k
  have hz : ∀ x j, x ≠ 1 ∨ j ≠ 2 → zup h 1 2 (nI (zst (zu m (5 * c + 4) b.toNat) 1)) x j = h x j := fun x j hx => by
    unfold zup
    rw [if_neg (by omega)]
  refine ⟨⟨by rw [hz _ _ (by omega), s1, hev], by rw [hz _ _ (by omega), s2, hst], zS_zup_same _ _ _ _⟩, fun d hd htd => ?_, fun a ha => ?_, by rw [hz _ _ (by omega), s6, znb_u _ (by omega)], fun k hk => ?_⟩
  · rw [htt] at htd
    obtain ⟨x1, x2, x3⟩ := s4 d hd htd
    rw [hof d 1 (by omega), hof d 2 (by omega), hof d 3 (by omega), if_neg (show ¬ (d = c ∧ 1 = 4) by omega), if_neg (show ¬ (d = c ∧ 2 = 4) by omega), if_neg (show ¬ (d = c ∧ 3 = 4) by omega)]
    exact ⟨by rw [hz _ _ (by omega)]; exact x1, by rw [hz _ _ (by omega)]; exact x2, by rw [hz _ _ (by omega)]; exact x3⟩
  · have : zfbs (zu m (5 * c + 4) b.toNat) a = zfbs m a := by
      unfold zfbs
      congr 1
      funext x
      rw [zbd_u _ (by omega)]
    rw [this, hz _ _ (by omega)]
    exact s5 a ha
  · rw [znb_u _ (by omega)] at hk
    obtain ⟨x1, x2, x3⟩ := s7 k hk
    rw [hod, zln_u _ (by omega)]
    exact ⟨by rw [hz _ _ (by omega)]; exact x1, by rw [hz _ _ (by omega)]; exact x2, by rw [hz _ _ (by omega)]; exact x3⟩
theorem zn_fix {h : zHp} {m : Nat → Nat} {hs : List (Nat → Nat)} {sn : Option (Nat → Nat)} {tx : List Nat} (hV : zCV h m hs sn tx) (hI : zI m) (c : Int32) (b : Bool) : zCAns (zM_80 [.inr 0, .inl c, .inl (nI b.toNat)]) (zoFix m c b) h m hs sn tx := by
  have hS := hV.1
  have hB := hI.1
  have he := zB_ev hB
  have e1 := ze_80 c (nI b.toNat) h
  rw [zn_there hS hB] at e1
  simp only [Option.bind_some, zpush] at e1
  rw [zb_80_8, zS_b0n] at e1
  unfold zoFix
  cases h1 : zth m c with
  | false =>
    rw [h1, if_neg (by decide)] at e1
    exact zCAns_no hV e1
  | true =>
  obtain ⟨n, hn, hn1, rfl⟩ := zth_of h1
  have tn := zt_of hn hn1
  have hn8 : n < 8 := by omega
  rw [h1, if_pos rfl, zn_fixed hS hB hn8 tn] at e1
  simp only [Option.bind_some, zpush] at e1
  have e2 : zci .ne (nI (decide (zof m n 4 = 1)).toNat) (nI b.toNat) = !decide (decide (zof m n 4 = 1) = b) := by
    cases decide (zof m n 4 = 1) <;> cases b <;> decide
  rw [zb_80_21, e2] at e1
  rw [if_neg (by decide), zS_cl (show n < 2147483648 by omega)]
  by_cases h3 : decide (zof m n 4 = 1) = b
  · rw [decide_eq_true h3, if_neg (by decide)] at e1
    rw [if_pos h3]
    exact zCAns_no hV e1
  obtain ⟨h', p1, p2, p3, p4⟩ := zn_remV hV hB
  rw [decide_eq_false h3, if_pos (by decide), p1] at e1
  rw [if_neg h3]
  simp only [Option.bind_some, zpush] at e1
  have hS2 := zSr_fix p2.1 hn8 hB tn h3
  have hlt : zst (zu m (5 * n + 4) b.toNat) 1 < 256 := zst_lt (by rw [zev_u _ (by omega)]; exact he) 1
  rw [zb_80_39, p2.1.1.2.2, zS_shl1 _ (by omega), zS_xor, zst1_fix hn8 hB tn h3, zS_zup_same, zn_bits _ hlt] at e1
  simp only [Option.bind_some, zpush] at e1
  rw [zb_80_64] at e1
  exact ⟨_, e1, zCV_now p2 hS2 (fun x j hx => zS_zup_ne _ (by omega) _ _ _), zhi_up p3 (by omega) _ _⟩
