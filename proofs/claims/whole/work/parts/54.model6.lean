/-! forbid; a border's new length. -/
def zmFb (m : Nat → Nat) (a b v : Nat) : Nat → Nat := zu (zu m (133 + 4 * a + b) v) (133 + 4 * b + a) v
theorem zI_fbM {m : Nat → Nat} (h : zI m) {a b v : Nat} (ha : a < 4) (hb : b < 4) (hv : v ≤ 1) : zI (zmFb m a b v) := by
  obtain ⟨⟨b1, b2, b3, b4, b5⟩, i1, i2, i3, i4, i5, i6, o1, o2, o3⟩ := h
  have hun : ∀ k, (k < 133 ∨ k = 149) → zmFb m a b v k = m k := by
    intro k hk
    unfold zmFb zu
    rw [if_neg (by omega), if_neg (by omega)]
  have hof : ∀ d w, d < 8 → w < 5 → zof (zmFb m a b v) d w = zof m d w := fun d w hd hw => hun _ (by omega)
  have hln : ∀ x y, x < 8 → y < 8 → zln (zmFb m a b v) x y = zln m x y := fun x y hx hy => hun _ (by omega)
  have hod : ∀ k, k < 28 → zod (zmFb m a b v) k = zod m k := fun k hk => hun _ (by omega)
  have hnb : znb (zmFb m a b v) = znb m := hun _ (by omega)
  have hev : zev8 (zmFb m a b v) = zev8 m := hun _ (by omega)
  have hbd : ∀ x y, x < 4 → y < 4 → zbd (zmFb m a b v) x y = if (x = a ∧ y = b) ∨ (x = b ∧ y = a) then v else zbd m x y := by
    intro x y hx hy
    unfold zmFb zbd zu
    by_cases hq : (x = a ∧ y = b) ∨ (x = b ∧ y = a)
    · rw [if_pos hq]
      by_cases hz : x = b ∧ y = a
      · rw [if_pos (by omega)]
      · rw [if_neg (by omega), if_pos (by omega)]
    · rw [if_neg hq, if_neg (by omega), if_neg (by omega)]
  refine ⟨⟨by omega, by omega, fun d hd => ?_, fun x y hx hy => by rw [hln x y hx hy]; exact b4 x y hx hy, fun x y hx hy => ?_⟩, fun d hd hq => ?_, fun d hd hq => ?_, fun x y hx hy => by rw [hln x y hx hy, hln y x hy hx]; exact i3 x y hx hy, fun x hx => by rw [hln x x hx hx]; exact i4 x hx, fun x y hx hy hl => ?_, fun x y hx hy => ?_, ?_, ?_, ?_⟩
  · rw [hof d 0 hd (by omega), hof d 1 hd (by omega), hof d 2 hd (by omega), hof d 3 hd (by omega), hof d 4 hd (by omega)]
    exact b3 d hd
  · rw [hbd x y hx hy]
    have := b5 x y hx hy
    split <;> omega
  · rw [hev] at hq
    rw [hof d 0 hd (by omega)]
    exact i1 d hd hq
  · rw [hof d 4 hd (by omega)] at hq
    rw [hof d 0 hd (by omega)]
    exact i2 d hd hq
  · rw [hln x y hx hy] at hl
    rw [hof x 0 hx (by omega)]
    exact i5 x y hx hy hl
  · rw [hbd x y hx hy, hbd y x hy hx, i6 x y hx hy]
    by_cases hq : (x = a ∧ y = b) ∨ (x = b ∧ y = a)
    · rw [if_pos hq, if_pos (by omega)]
    · rw [if_neg hq, if_neg (by omega)]
  · intro k hk
    rw [hnb] at hk
    obtain ⟨lo, hi, p1, p2, p3, p4⟩ := o1 k hk
    exact ⟨lo, hi, p1, p2, by rw [hod k (by omega)]; exact p3, by rw [hln lo hi (by omega) p2]; exact p4⟩
  · intro j k hj hk hq
    rw [hnb] at hj hk
    rw [hod j (by omega), hod k (by omega)] at hq
    exact o2 j k hj hk hq
  · intro lo hi hl hh hq
    rw [hln lo hi (by omega) hh] at hq
    obtain ⟨k, p1, p2⟩ := o3 lo hi hl hh hq
    exact ⟨k, by rw [hnb]; exact p1, by rw [hod k (by omega)]; exact p2⟩
def zoForbid (m : Nat → Nat) (a b : Int32) (is : Bool) : Int32 × Option (Nat → Nat) :=
  if zcol a = false then (-2, none) else if zcol b = false then (-2, none) else if decide (zbd m a.toNatClampNeg b.toNatClampNeg = 1) = is then (-5, none)
  else (nI (zov (zmFb m a.toNatClampNeg b.toNatClampNeg is.toNat) 0), some (zmFb m a.toNatClampNeg b.toNatClampNeg is.toNat))
theorem zI_forbid {m : Nat → Nat} (h : zI m) (a b : Int32) (is : Bool) (m' : Nat → Nat) (hm : (zoForbid m a b is).2 = some m') : zI m' := by
  unfold zoForbid at hm
  split at hm
  · cases hm
  · rename_i h1
    split at hm
    · cases hm
    · rename_i h2
      split at hm
      · cases hm
      · cases hm
        obtain ⟨n, hn, rfl⟩ := zcol_of (v := a) (by simpa using h1)
        obtain ⟨k, hk, rfl⟩ := zcol_of (v := b) (by simpa using h2)
        rw [zS_cl (by omega), zS_cl (by omega)]
        exact zI_fbM h hn hk (by cases is <;> simp)
theorem zm_forbid {h : zHp} {m : Nat → Nat} {hs : List (Nat → Nat)} {sn : Option (Nat → Nat)} {tx : List Nat} (hV : zMV h m hs sn tx) (hI : zI m) (a b : Int32) (is : Bool) : zAns (zM_20 [.inr 76, .inl a, .inl b, .inl (nI is.toNat)]) (zoForbid m a b is) h m hs sn tx := by
  have hR := hV.1
  have hB := hI.1
  have e1 := ze_20 a b (nI is.toNat) h
  rw [zm_col] at e1
  simp only [Option.bind_some, zpush] at e1
  rw [zb_20_4, zS_b0] at e1
  have hI2 := zI_forbid hI a b is
  unfold zoForbid at hI2 ⊢
  cases h1 : zcol a with
  | false =>
    rw [h1, if_pos (by decide)] at e1
    exact zAns_no hV e1
  | true =>
    rw [h1, if_neg (by decide), zm_col] at e1
    simp only [Option.bind_some, zpush] at e1
    rw [zb_20_11, zS_b0n] at e1
    rw [h1, if_neg (by decide)] at hI2
    rw [if_neg (by decide)]
    cases h2 : zcol b with
    | false =>
      rw [h2, if_neg (by decide)] at e1
      exact zAns_no hV e1
    | true =>
      obtain ⟨n, hn, rfl⟩ := zcol_of h1
      obtain ⟨k, hk, rfl⟩ := zcol_of h2
      rw [h2, if_pos rfl, zm_bad hR hB hn hk] at e1
      simp only [Option.bind_some, zpush] at e1
      rw [zb_20_23] at e1
      rw [h2, if_neg (by decide), zS_cl (show n < 2147483648 by omega), zS_cl (show k < 2147483648 by omega)] at hI2
      rw [if_neg (by decide), zS_cl (show n < 2147483648 by omega), zS_cl (show k < 2147483648 by omega)]
      have e2 : zci .ne (nI (decide (zbd m n k = 1)).toNat) (nI is.toNat) = !decide (decide (zbd m n k = 1) = is) := by
        cases decide (zbd m n k = 1) <;> cases is <;> decide
      rw [e2] at e1
      by_cases h3 : decide (zbd m n k = 1) = is
      · rw [decide_eq_true h3, if_neg (by decide)] at e1
        rw [if_pos h3]
        exact zAns_no hV e1
      · rw [if_neg h3] at hI2 ⊢
        obtain ⟨h', p1, p2, p3⟩ := zm_recV hV
        rw [decide_eq_false h3, if_pos (by decide), p1] at e1
        simp only [Option.bind_some, zpush] at e1
        have hV2 := zMV_up (zMV_up p2 (133 + 4 * n + k) is.toNat) (133 + 4 * k + n) is.toNat
        have hI3 := hI2 _ rfl
        have e4 : zr_20 34 [some (.inr 76), some (.inl (nI n)), some (.inl (nI k)), some (.inl (nI is.toNat))] [] h' = (zM_19 [.inr 76, .inl (nI 0)] (zup (zup h' 77 (133 + 4 * n + k) (nI is.toNat)) 77 (133 + 4 * k + n) (nI is.toNat))).bind (fun r => zr_20 85 [some (.inr 76), some (.inl (nI n)), some (.inl (nI k)), some (.inl (nI is.toNat))] (zpush r.1 []) r.2) := by
          rw [zb_20_34, zS_b0, zS_mul, zS_mul, zS_add, zS_add, zS_add, zS_add, zS_ib _ (by omega), zS_ib _ (by omega), decide_eq_true (by omega), decide_eq_true (by omega), if_pos rfl, if_pos rfl, if_pos rfl, if_pos rfl, zS_cl (by omega), zS_cl (by omega)]
          cases is <;> rfl
        rw [e4, zm_ov hV2.1 hI3.1 (by omega)] at e1
        simp only [Option.bind_some, zpush] at e1
        rw [zb_20_85] at e1
        exact ⟨_, e1, hV2, zlo_up (zlo_up p3 (by omega) _ _) (by omega) _ _⟩
/-- a pigeon-hole -/
theorem zpig : ∀ (S : List Nat) (n : Nat) (f : Nat → Nat), (∀ k, k < n → f k ∈ S) → (∀ j k, j < n → k < n → f j = f k → j = k) → n ≤ S.length := by
  intro S
  induction S with
  | nil =>
    intro n f h1 _
    rcases Nat.eq_zero_or_pos n with h | h
    · simp [h]
    · exact absurd (h1 0 h) List.not_mem_nil
  | cons a S ih =>
    intro n f h1 h2
    by_cases hx : ∃ k0, k0 < n ∧ f k0 = a
    · obtain ⟨k0, hk, ha⟩ := hx
      have h3 := ih (n - 1) (fun k => if k < k0 then f k else f (k + 1)) (fun k hk2 => by
        show (if k < k0 then f k else f (k + 1)) ∈ S
        split
        · rename_i hlt
          rcases List.mem_cons.mp (h1 k (by omega)) with e | e
          · have := h2 k k0 (by omega) hk (e.trans ha.symm)
            omega
          · exact e
        · rcases List.mem_cons.mp (h1 (k + 1) (by omega)) with e | e
          · have := h2 (k + 1) k0 (by omega) hk (e.trans ha.symm)
            omega
          · exact e) (fun j k hj hk2 he => by
        have he : (if j < k0 then f j else f (j + 1)) = (if k < k0 then f k else f (k + 1)) := he
        split at he <;> split at he
        · exact h2 j k (by omega) (by omega) he
        · have := h2 j (k + 1) (by omega) (by omega) he
          omega
        · have := h2 (j + 1) k (by omega) (by omega) he
          omega
        · have := h2 (j + 1) (k + 1) (by omega) (by omega) he
          omega)
      simp only [List.length_cons]
      omega
    · have h3 := ih n f (fun k hk => by
        rcases List.mem_cons.mp (h1 k hk) with e | e
        · exact absurd ⟨k, hk, e⟩ hx
        · exact e) h2
      simp only [List.length_cons]
      omega
/-- the codes of all pairs -/
def zall : List Nat := [1, 2, 3, 4, 5, 6, 7, 12, 13, 14, 15, 16, 17, 23, 24, 25, 26, 27, 34, 35, 36, 37, 45, 46, 47, 56, 57, 67]
theorem zall_mem {lo hi : Nat} (h1 : lo < hi) (h2 : hi < 8) : 10 * lo + hi ∈ zall := by
  have key : ∀ hi, hi < 8 → ∀ lo, lo < hi → 10 * lo + hi ∈ zall := by decide
  exact key hi h2 lo h1
theorem zcd_eq {a b lo hi : Nat} (ha : a < 8) (hb : b < 8) (hab : a ≠ b) (h1 : lo < hi) (h2 : hi < 8) : zcd a b = 10 * lo + hi ↔ (a = lo ∧ b = hi) ∨ (a = hi ∧ b = lo) := by
  unfold zcd
  split <;> omega
theorem zcd_lh {a b : Nat} (ha : a < 8) (hb : b < 8) (hab : a ≠ b) : ∃ lo hi, lo < hi ∧ hi < 8 ∧ zcd a b = 10 * lo + hi ∧ ((a = lo ∧ b = hi) ∨ (a = hi ∧ b = lo)) := by
  by_cases h : a < b
  · exact ⟨a, b, h, hb, by unfold zcd; rw [if_pos h], Or.inl ⟨rfl, rfl⟩⟩
  · exact ⟨b, a, by omega, ha, by unfold zcd; rw [if_neg h], Or.inr ⟨rfl, rfl⟩⟩
theorem zroom28 {m : Nat → Nat} (h : zOd m) (hs : ∀ a b, a < 8 → b < 8 → zln m a b = zln m b a) {a b : Nat} (ha : a < 8) (hb : b < 8) (hab : a ≠ b) (hz : zln m a b = 0) : znb m + 1 ≤ 28 := by
  obtain ⟨lo, hi, p1, p2, p3, p4⟩ := zcd_lh ha hb hab
  obtain ⟨o1, o2, o3⟩ := h
  have hl : zln m lo hi = 0 := by
    rcases p4 with ⟨rfl, rfl⟩ | ⟨rfl, rfl⟩
    · exact hz
    · rw [hs _ _ (by omega) (by omega)]; exact hz
  have key : ∀ k, k < znb m → zod m k ≠ 10 * lo + hi := by
    intro k hk he
    obtain ⟨l2, h2, q1, q2, q3, q4⟩ := o1 k hk
    have e1 : l2 = lo ∧ h2 = hi := by omega
    rw [e1.1, e1.2] at q4
    omega
  have h5 := zpig zall (znb m + 1) (fun k => if k < znb m then zod m k else 10 * lo + hi) (fun k hk => by
    show (if k < znb m then zod m k else 10 * lo + hi) ∈ zall
    split
    · rename_i hlt
      obtain ⟨l2, h2, q1, q2, q3, q4⟩ := o1 k hlt
      rw [q3]
      exact zall_mem q1 q2
    · exact zall_mem p1 p2) (fun j k hj hk he => by
    have he : (if j < znb m then zod m j else 10 * lo + hi) = (if k < znb m then zod m k else 10 * lo + hi) := he
    split at he <;> split at he
    · rename_i x y
      exact o2 j k x y he
    · rename_i x y
      exact absurd he (key j x)
    · rename_i x y
      exact absurd he.symm (key k y)
    · omega)
  exact h5
