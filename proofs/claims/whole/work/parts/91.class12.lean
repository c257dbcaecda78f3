/-! sums over the order of the borders; forbid of the class. -/
theorem zsum_at {f g : Nat → Nat} {j : Nat} : ∀ (n k : Nat), k ≤ j → j < k + n → (∀ i, k ≤ i → i < k + n → i ≠ j → f i = g i) → zsum f k n + g j = zsum g k n + f j := by
  intro n
  induction n with
  | zero => intro k h1 h2; omega
  | succ n ih =>
    intro k h1 h2 h3
    by_cases hk : k = j
    · subst hk
      have := zsum_congr (f := f) (g := g) n (k + 1) (fun i a b => h3 i (by omega) (by omega) (by omega))
      simp only [zsum]
      omega
    · have e1 := ih (k + 1) (by omega) (by omega) (fun i a b c => h3 i (by omega) (by omega) c)
      have e2 := h3 k (Nat.le_refl _) (by omega) hk
      simp only [zsum]
      omega
def zhas (m : Nat → Nat) (c : Nat) : Nat → Bool
  | 0 => false
  | n + 1 => zhas m c n || decide (zod m n = c)
theorem zhas_iff {m : Nat → Nat} {c : Nat} : ∀ n, zhas m c n = true ↔ ∃ k, k < n ∧ zod m k = c := by
  intro n
  induction n with
  | zero =>
    constructor
    · intro h
      simp [zhas] at h
    · rintro ⟨k, a, _⟩
      omega
  | succ n ih =>
    unfold zhas
    rw [Bool.or_eq_true, ih, decide_eq_true_iff]
    constructor
    · rintro (⟨k, a, b⟩ | b)
      · exact ⟨k, by omega, b⟩
      · exact ⟨n, by omega, b⟩
    · rintro ⟨k, a, b⟩
      by_cases hk : k = n
      · subst hk
        exact Or.inr b
      · exact Or.inl ⟨k, by omega, b⟩
theorem zord_sum {m : Nat → Nat} (hI : zI m) (F : Nat → Nat → Nat) : ∀ n, n ≤ znb m → zsum (fun k => F (zod m k % 10) (zod m k / 10)) 0 n = zsum (fun c => zsum (fun o => if zhas m (10 * o + c) n = true then F c o else 0) 0 c) 0 8 := by
  obtain ⟨hB, i1, i2, i3, i4, i5, i6, o1, o2, o3⟩ := id hI
  intro n
  induction n with
  | zero =>
    intro _
    have e1 : zsum (fun c => zsum (fun o => if zhas m (10 * o + c) 0 = true then F c o else 0) 0 c) 0 8 ≤ 0 * 8 := zsum_le 8 0 (fun c _ _ => by
      have := zsum_le (f := fun o => if zhas m (10 * o + c) 0 = true then F c o else 0) (b := 0) c 0 (fun o _ _ => by simp [zhas])
      omega)
    have e2 : zsum (fun k => F (zod m k % 10) (zod m k / 10)) 0 0 = 0 := rfl
    omega
  | succ n ih =>
    intro hn
    have e0 := ih (by omega)
    obtain ⟨lo, hi, p1, p2, p3, p4⟩ := o1 n (by omega)
    have e1 := zsum_app (fun k => F (zod m k % 10) (zod m k / 10)) n 0 1
    have e1b : zsum (fun k => F (zod m k % 10) (zod m k / 10)) (0 + n) 1 = F hi lo := by
      simp only [zsum, Nat.zero_add, Nat.add_zero]
      rw [show zod m n % 10 = hi by omega, show zod m n / 10 = lo by omega]
    have hno : zhas m (10 * lo + hi) n = false := by
      cases hq : zhas m (10 * lo + hi) n with
      | false => rfl
      | true =>
        obtain ⟨k, a, b⟩ := (zhas_iff n).mp hq
        have := o2 k n (by omega) (by omega) (by omega)
        omega
    have hyes : zhas m (10 * lo + hi) (n + 1) = true := (zhas_iff (n + 1)).mpr ⟨n, by omega, p3⟩
    have hsame : ∀ o c, o < c → c < 8 → (c ≠ hi ∨ o ≠ lo) → zhas m (10 * o + c) (n + 1) = zhas m (10 * o + c) n := fun o c a b d => by
      show (zhas m (10 * o + c) n || decide (zod m n = 10 * o + c)) = _
      rw [decide_eq_false (by omega), Bool.or_false]
    have inn := zsum_at (f := fun o => if zhas m (10 * o + hi) (n + 1) = true then F hi o else 0) (g := fun o => if zhas m (10 * o + hi) n = true then F hi o else 0) (j := lo) hi 0 (by omega) (by omega) (fun o a b d => by
      show (if zhas m (10 * o + hi) (n + 1) = true then F hi o else 0) = (if zhas m (10 * o + hi) n = true then F hi o else 0)
      rw [hsame o hi (by omega) p2 (Or.inr d)])
    have out := zsum_at (f := fun c => zsum (fun o => if zhas m (10 * o + c) (n + 1) = true then F c o else 0) 0 c) (g := fun c => zsum (fun o => if zhas m (10 * o + c) n = true then F c o else 0) 0 c) (j := hi) 8 0 (by omega) (by omega) (fun c a b d => zsum_congr c 0 (fun o x y => by
      show (if zhas m (10 * o + c) (n + 1) = true then F c o else 0) = (if zhas m (10 * o + c) n = true then F c o else 0)
      rw [hsame o c (by omega) (by omega) (Or.inl d)]))
    have t1 : (if zhas m (10 * lo + hi) n = true then F hi lo else 0) = 0 := by rw [hno]; rfl
    have t2 : (if zhas m (10 * lo + hi) (n + 1) = true then F hi lo else 0) = F hi lo := by rw [if_pos hyes]
    simp only [t1, t2] at inn
    rw [e1, e1b, e0]
    omega
theorem zov_ord {m : Nat → Nat} (hI : zI m) {w : Nat} : zsum (fun k => zovf m w (zod m k % 10) (zod m k / 10)) 0 (znb m) = zov m w := by
  obtain ⟨hB, i1, i2, i3, i4, i5, i6, o1, o2, o3⟩ := id hI
  have he := zB_ev hB
  have hz : ∀ c o, zln m c o = 0 → zovf m w c o = 0 := fun c o hl => by
    unfold zovf zcf
    rw [decide_eq_false (show ¬ 0 < zln m c o by omega), hl]
    simp
  rw [zord_sum hI (zovf m w) (znb m) (Nat.le_refl _)]
  have e1 : zsum (fun c => zsum (fun o => if zhas m (10 * o + c) (znb m) = true then zovf m w c o else 0) 0 c) 0 8 = zsum (fun c => zsum (fun o => zovf m w c o) 0 c) 0 8 := zsum_congr 8 0 (fun c _ hc => zsum_congr c 0 (fun o _ ho => by
    show (if zhas m (10 * o + c) (znb m) = true then zovf m w c o else 0) = zovf m w c o
    by_cases hh : zhas m (10 * o + c) (znb m) = true
    · rw [if_pos hh]
    · rw [if_neg hh]
      rcases Nat.eq_zero_or_pos (zln m c o) with h0 | h0
      · rw [hz c o h0]
      · rw [i3 c o (by omega) (by omega)] at h0
        obtain ⟨k, a, b⟩ := o3 o c (by omega) (by omega) h0
        exact absurd ((zhas_iff (znb m)).mpr ⟨k, a, b⟩) hh))
  rw [e1]
  have e2 := zsum_app (fun c => zsum (fun o => zovf m w c o) 0 c) (zev8 m) 0 (8 - zev8 m)
  rw [show zev8 m + (8 - zev8 m) = 8 by omega] at e2
  have e3 := zsum_le (f := fun c => zsum (fun o => zovf m w c o) 0 c) (b := 0) (8 - zev8 m) (0 + zev8 m) (fun c a b => by
    have := zsum_le (f := fun o => zovf m w c o) (b := 0) c 0 (fun o x y => by
      show zovf m w c o ≤ 0
      rcases Nat.eq_zero_or_pos (zln m c o) with h0 | h0
      · rw [hz c o h0]
        exact Nat.le_refl _
      · have := zt_lt (zI_ev hI (show c < 8 by omega) (show o < 8 by omega) h0).1
        omega)
    omega)
  rw [e2]
  unfold zov
  omega
theorem zcf_sym {m : Nat → Nat} (hI : zI m) {a b : Nat} (ha : a < 8) (hb : b < 8) : zcf m a b = zcf m b a := by
  have h1 := zB_1 hI.1 ha
  have h2 := zB_1 hI.1 hb
  unfold zcf
  rw [hI.2.2.2.1 a b ha hb, hI.2.2.2.2.2.2.1 _ _ (show zof m a 1 < 4 by omega) (show zof m b 1 < 4 by omega)]
/-- a border's lengths and countries in the class -/
theorem zSr_at {h : zHp} {m : Nat → Nat} (hS : zSr h 1 m) (hI : zI m) {k : Nat} (hk : k < znb m) : ∃ lo hi, lo < hi ∧ hi < 8 ∧ zod m k / 10 = lo ∧ zod m k % 10 = hi ∧ h 7 k = nI lo ∧ h 8 k = nI hi ∧ h 9 k = nI (zln m lo hi) ∧ 0 < zln m lo hi ∧ zt m lo = true ∧ zt m hi = true := by
  obtain ⟨q1, q2, q3⟩ := hS.2.2.2.2 k hk
  obtain ⟨lo, hi, p1, p2, p3, p4⟩ := hI.2.2.2.2.2.2.2.1 k hk
  have e1 : zod m k / 10 = lo := by omega
  have e2 : zod m k % 10 = hi := by omega
  rw [e1] at q1
  rw [e2] at q2
  rw [e1, e2] at q3
  obtain ⟨t1, t2⟩ := zI_ev hI (show lo < 8 by omega) p2 p4
  exact ⟨lo, hi, p1, p2, e1, e2, q1, q2, q3, p4, t1, t2⟩
theorem zn_cat {h : zHp} {m : Nat → Nat} (hS : zSr h 1 m) (hI : zI m) {k : Nat} (hk : k < znb m) : zM_82 [.inr 1, .inl (nI k)] h = some (some (nI (zcf m (zod m k % 10) (zod m k / 10)).toNat), h) := by
  have hn := zB_nb hI.1
  obtain ⟨lo, hi, p1, p2, p3, p4, q1, q2, q3, p5, t1, t2⟩ := zSr_at hS hI hk
  have c1 : h 2 lo = nI (zof m lo 1) := (hS.2.1 lo (by omega) t1).1
  have c2 : h 2 hi = nI (zof m hi 1) := (hS.2.1 hi (by omega) t2).1
  have b1 := zB_1 hI.1 (show lo < 8 by omega)
  have b2 := zB_1 hI.1 p2
  have e1 : zcf m lo hi = decide (zbd m (zof m lo 1) (zof m hi 1) = 1) := by
    unfold zcf
    rw [decide_eq_true p5, Bool.true_and]
  rw [p3, p4, zcf_sym hI p2 (show lo < 8 by omega), e1, ze_82, zS_ib _ (by omega), decide_eq_true (show k < 28 by omega), if_pos rfl, if_pos rfl, zS_cl (show k < 2147483648 by omega), q1, q2, zS_ib _ (show lo < 2147483648 by omega), zS_ib _ (show hi < 2147483648 by omega), decide_eq_true (show lo < 8 by omega), decide_eq_true p2, if_pos rfl, if_pos rfl, zS_cl (show lo < 2147483648 by omega), zS_cl (show hi < 2147483648 by omega), c1, c2, zn_pair hS (by omega) (by omega)]
  simp only [Option.bind_some, zpush]
  rw [zb_82_32, zS_bo, if_pos rfl]
theorem zn_cnf1 {h : zHp} {m : Nat → Nat} (hS : zSr h 1 m) (hI : zI m) : ∀ (n k acc : Nat), k + n = znb m → zr_83 4 [some (.inr 1), some (.inl (nI acc)), some (.inl (nI k))] [] h = some (some (nI (acc + zsum (fun k => zovf m 0 (zod m k % 10) (zod m k / 10)) k n)), h) := by
  have hn := zB_nb hI.1
  have h6 : h 6 0 = nI (znb m) := hS.2.2.2.1
  intro n
  induction n with
  | zero =>
    intro k acc hk
    rw [zb_83_4, h6, zS_cge (by omega) (by omega), decide_eq_true (by omega), if_pos rfl]
    rfl
  | succ n ih =>
    intro k acc hk
    rw [zb_83_4, h6, zS_cge (by omega) (by omega), decide_eq_false (by omega), if_neg (by decide), zn_cat hS hI (by omega)]
    simp only [Option.bind_some, zpush]
    rw [zb_83_20, zS_b0, zS_add, zS_add]
    have e1 : zovf m 0 (zod m k % 10) (zod m k / 10) = (zcf m (zod m k % 10) (zod m k / 10)).toNat := by
      unfold zovf
      cases zcf m (zod m k % 10) (zod m k / 10) <;> rfl
    cases h4 : zcf m (zod m k % 10) (zod m k / 10) with
    | false =>
      rw [if_pos (by decide), ih (k + 1) acc (by omega)]
      simp only [zsum, e1, h4]
      simp
    | true =>
      rw [if_neg (by decide), ih (k + 1) (acc + 1) (by omega)]
      simp only [zsum, e1, h4]
      simp [Nat.add_assoc]
theorem zn_cnf {h : zHp} {m : Nat → Nat} (hS : zSr h 1 m) (hI : zI m) : zM_83 [.inr 1] h = some (some (nI (zov m 0)), h) := by
  rw [ze_83, zn_cnf1 hS hI (znb m) 0 0 (by omega), zov_ord hI, Nat.zero_add]
