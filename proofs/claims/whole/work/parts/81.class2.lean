/-! The class's neighboursOf. -/
def zend (m : Nat → Nat) (c k : Nat) : Nat := if zod m k / 10 = c then 2 ^ (zod m k % 10) else if zod m k % 10 = c then 2 ^ (zod m k / 10) else 0
def zorl (m : Nat → Nat) (c : Nat) : Nat → Nat → Nat
  | _, 0 => 0
  | k, n + 1 => zend m c k ||| zorl m c (k + 1) n
theorem zn_nbs1 {h : zHp} {m : Nat → Nat} (hS : zSr h 1 m) (hI : zI m) {c : Nat} (hc : c < 8) : ∀ (n k acc : Nat), k + n = znb m → zr_72 4 [some (.inr 6), some (.inl (nI c)), some (.inl (nI acc)), some (.inl (nI k))] [] h = some (some (nI (acc ||| zorl m c k n)), h) := by
  have hn := zB_nb hI.1
  have h6 : h 6 0 = nI (znb m) := hS.2.2.2.1
  intro n
  induction n with
  | zero =>
    intro k acc hk
    rw [zb_72_4, h6, zS_cge (by omega) (by omega), decide_eq_true (by omega), if_pos rfl]
    simp [zorl]
  | succ n ih =>
    intro k acc hk
    obtain ⟨q1, q2, q3⟩ := hS.2.2.2.2 k (by omega)
    obtain ⟨l, g, p1, p2, p3, p4⟩ := hI.2.2.2.2.2.2.2.1 k (by omega)
    have q1 : h 7 k = nI (zod m k / 10) := q1
    have q2 : h 8 k = nI (zod m k % 10) := q2
    rw [zb_72_4, h6, zS_cge (by omega) (by omega), decide_eq_false (by omega), if_neg (by decide), zS_ib _ (by omega), decide_eq_true (by omega), if_pos rfl, if_pos rfl, if_pos rfl, if_pos rfl, zS_cl (by omega), q1, q2, zS_cne (by omega) (by omega), zS_cne (by omega) (by omega), zS_add, zS_shl1 _ (by omega), zS_shl1 _ (by omega), zS_or, zS_or]
    have e1 : (acc ||| zorl m c k (n + 1)) = (acc ||| zend m c k) ||| zorl m c (k + 1) n := by
      rw [Nat.or_assoc]
      rfl
    rw [e1]
    unfold zend
    by_cases h3 : zod m k / 10 = c
    · rw [decide_eq_true h3, if_neg (by decide), if_pos h3]
      exact ih (k + 1) _ (by omega)
    · rw [decide_eq_false h3, if_pos (by decide), if_neg h3]
      by_cases h4 : zod m k % 10 = c
      · rw [decide_eq_true h4, if_neg (by decide), if_pos h4]
        exact ih (k + 1) _ (by omega)
      · rw [decide_eq_false h4, if_pos (by decide), if_neg h4, Nat.or_zero]
        exact ih (k + 1) _ (by omega)
theorem zorl_bit {m : Nat → Nat} {c o : Nat} : ∀ (n k : Nat), (zorl m c k n).testBit o = true ↔ ∃ j, k ≤ j ∧ j < k + n ∧ (zend m c j).testBit o = true := by
  intro n
  induction n with
  | zero =>
    intro k
    constructor
    · intro h
      simp [zorl] at h
    · rintro ⟨j, a, b, _⟩
      omega
  | succ n ih =>
    intro k
    unfold zorl
    rw [Nat.testBit_or, Bool.or_eq_true, ih]
    constructor
    · rintro (h | ⟨j, a, b, d⟩)
      · exact ⟨k, by omega, by omega, h⟩
      · exact ⟨j, by omega, by omega, d⟩
    · rintro ⟨j, a, b, d⟩
      by_cases hj : j = k
      · subst hj
        exact Or.inl d
      · exact Or.inr ⟨j, by omega, by omega, d⟩
theorem zorl_nbs {m : Nat → Nat} (hI : zI m) {c : Nat} (hc : c < 8) : zorl m c 0 (znb m) = znbs m c := by
  obtain ⟨hB, i1, i2, i3, i4, i5, i6, o1, o2, o3⟩ := id hI
  have he := zB_ev hB
  apply Nat.eq_of_testBit_eq
  intro o
  have hnb : (znbs m c).testBit o = true ↔ (o < zev8 m ∧ 0 < zln m c o) := by
    unfold znbs
    rw [zset8_bit]
    simp
  rw [Bool.eq_iff_iff, zorl_bit, hnb]
  constructor
  · rintro ⟨j, -, hj, d⟩
    obtain ⟨lo, hi, p1, p2, p3, p4⟩ := o1 j (by omega)
    have pl : ∀ x, x < 8 → zof m x 0 = 1 → x < zev8 m := fun x hx h1 => by
      rcases Nat.lt_or_ge x (zev8 m) with a | a
      · exact a
      · rw [i1 x hx a] at h1
        omega
    have plo := i5 lo hi (by omega) p2 p4
    have p4' : 0 < zln m hi lo := by rw [i3 _ _ p2 (by omega)]; exact p4
    have phi := i5 hi lo p2 (by omega) p4'
    unfold zend at d
    rw [show zod m j / 10 = lo by omega, show zod m j % 10 = hi by omega] at d
    split at d
    · rename_i h1
      rw [Nat.testBit_two_pow] at d
      have d := of_decide_eq_true d
      subst d
      subst h1
      exact ⟨pl _ p2 phi, p4⟩
    · split at d
      · rename_i h1
        rw [Nat.testBit_two_pow] at d
        have d := of_decide_eq_true d
        subst d
        subst h1
        exact ⟨pl _ (by omega) plo, p4'⟩
      · simp at d
  · rintro ⟨ho, hl⟩
    have hco : c ≠ o := by
      intro e
      subst e
      have := i4 c hc
      omega
    obtain ⟨lo, hi, p1, p2, p3, p4⟩ := zcd_lh hc (show o < 8 by omega) hco
    rcases p4 with ⟨rfl, rfl⟩ | ⟨rfl, rfl⟩
    · obtain ⟨k, k1, k2⟩ := o3 c o p1 p2 hl
      refine ⟨k, by omega, by omega, ?_⟩
      unfold zend
      rw [if_pos (by omega), show zod m k % 10 = o by omega, Nat.testBit_two_pow]
      exact decide_eq_true rfl
    · rw [i3 _ _ (by omega) (by omega)] at hl
      obtain ⟨k, k1, k2⟩ := o3 o c p1 p2 hl
      refine ⟨k, by omega, by omega, ?_⟩
      unfold zend
      rw [if_neg (by omega), if_pos (by omega), show zod m k / 10 = o by omega, Nat.testBit_two_pow]
      exact decide_eq_true rfl
theorem zn_nbs {h : zHp} {m : Nat → Nat} (hS : zSr h 1 m) (hI : zI m) {c : Nat} (hc : c < 8) : zM_72 [.inr 6, .inl (nI c)] h = some (some (nI (znbs m c)), h) := by
  rw [ze_72_t6, zn_nbs1 hS hI hc (znb m) 0 0 (by omega), Nat.zero_or, zorl_nbs hI hc]
