/-! country, border, borderAt, forbidden of the class. -/
theorem zinc_cd {c t : Nat} (hc : c < 8) (ht : t < 8) : zinc2 c (zcd c t) = true := by
  unfold zinc2 zcd
  rw [Bool.or_eq_true, decide_eq_true_iff, decide_eq_true_iff]
  split <;> omega
theorem zcd_inj {c t i : Nat} (hc : c < 8) (ht : t < 8) (hi : i < 8) (h1 : t ≠ c) (h2 : i ≠ c) (h : zcd c t = zcd c i) : t = i := by
  unfold zcd at h
  split at h <;> split at h <;> omega
theorem zlna_sum {m : Nat → Nat} (hI : zI m) {c : Nat} (hc : c < 8) : ∀ n, n ≤ znb m → zsum (fun k => if zinc2 c (zod m k) = true then zln m c (zth3 c (zod m k)) else 0) 0 n = zsum (fun t => if (!decide (t = c) && zhas m (zcd c t) n) = true then zln m c t else 0) 0 8 := by
  obtain ⟨hB, i1, i2, i3, i4, i5, i6, o1, o2, o3⟩ := id hI
  intro n
  induction n with
  | zero =>
    intro _
    have e1 := zsum_le (f := fun t => if (!decide (t = c) && zhas m (zcd c t) 0) = true then zln m c t else 0) (b := 0) 8 0 (fun t _ _ => by simp [zhas])
    have e2 : zsum (fun k => if zinc2 c (zod m k) = true then zln m c (zth3 c (zod m k)) else 0) 0 0 = 0 := rfl
    omega
  | succ n ih =>
    intro hn
    have e0 := ih (by omega)
    have e1 := zsum_app (fun k => if zinc2 c (zod m k) = true then zln m c (zth3 c (zod m k)) else 0) n 0 1
    have hstep : ∀ t, zhas m (zcd c t) (n + 1) = (zhas m (zcd c t) n || decide (zod m n = zcd c t)) := fun _ => rfl
    cases hz : zinc2 c (zod m n) with
    | false =>
      have e1b : zsum (fun k => if zinc2 c (zod m k) = true then zln m c (zth3 c (zod m k)) else 0) (0 + n) 1 = 0 := by
        simp only [zsum, Nat.zero_add, Nat.add_zero]
        rw [hz]
        rfl
      have e2 : zsum (fun t => if (!decide (t = c) && zhas m (zcd c t) (n + 1)) = true then zln m c t else 0) 0 8 = zsum (fun t => if (!decide (t = c) && zhas m (zcd c t) n) = true then zln m c t else 0) 0 8 := zsum_congr 8 0 (fun t _ ht => by
        show (if (!decide (t = c) && zhas m (zcd c t) (n + 1)) = true then zln m c t else 0) = _
        rw [hstep, decide_eq_false (show ¬ zod m n = zcd c t from fun e => by rw [e, zinc_cd hc (by omega)] at hz; cases hz), Bool.or_false])
      rw [e1, e1b, e2]
      omega
    | true =>
      obtain ⟨t1, t2, t3, t4, t5⟩ := zinc_I hI hc (show n < znb m by omega) hz
      have e1b : zsum (fun k => if zinc2 c (zod m k) = true then zln m c (zth3 c (zod m k)) else 0) (0 + n) 1 = zln m c (zth3 c (zod m n)) := by
        simp only [zsum, Nat.zero_add, Nat.add_zero]
        rw [hz]
        rfl
      generalize zth3 c (zod m n) = t0 at t1 t2 t3 t4 t5 e1b
      have hno : zhas m (zcd c t0) n = false := by
        cases hq : zhas m (zcd c t0) n with
        | false => rfl
        | true =>
          obtain ⟨k, a, b⟩ := (zhas_iff n).mp hq
          have := o2 k n (by omega) (by omega) (by omega)
          omega
      have hyes : zhas m (zcd c t0) (n + 1) = true := (zhas_iff (n + 1)).mpr ⟨n, by omega, t3⟩
      have hat := zsum_at (f := fun t => if (!decide (t = c) && zhas m (zcd c t) (n + 1)) = true then zln m c t else 0) (g := fun t => if (!decide (t = c) && zhas m (zcd c t) n) = true then zln m c t else 0) (j := t0) 8 0 (by omega) (by omega) (fun t _ ht hne => by
        show (if (!decide (t = c) && zhas m (zcd c t) (n + 1)) = true then zln m c t else 0) = (if (!decide (t = c) && zhas m (zcd c t) n) = true then zln m c t else 0)
        by_cases htc : t = c
        · rw [decide_eq_true htc]
          rfl
        · rw [hstep, decide_eq_false (fun e => hne ((zcd_inj hc t1 (by omega) (fun a => t2 a.symm) htc (t3.symm.trans e)).symm)), Bool.or_false])
      have v1 : (if (!decide (t0 = c) && zhas m (zcd c t0) n) = true then zln m c t0 else 0) = 0 := by
        rw [hno, Bool.and_false]
        rfl
      have v2 : (if (!decide (t0 = c) && zhas m (zcd c t0) (n + 1)) = true then zln m c t0 else 0) = zln m c t0 := by
        rw [hyes, decide_eq_false (fun a => t2 a.symm)]
        rfl
      simp only [v1, v2] at hat
      rw [e1, e1b, e0]
      omega
theorem zlna {m : Nat → Nat} (hI : zI m) {c : Nat} (hc : c < 8) : zsum (fun k => if zinc2 c (zod m k) = true then zln m c (zth3 c (zod m k)) else 0) 0 (znb m) = zlns m c := by
  obtain ⟨hB, i1, i2, i3, i4, i5, i6, o1, o2, o3⟩ := id hI
  have he := zB_ev hB
  rw [zlna_sum hI hc (znb m) (Nat.le_refl _)]
  have e1 : zsum (fun t => if (!decide (t = c) && zhas m (zcd c t) (znb m)) = true then zln m c t else 0) 0 8 = zsum (fun t => zln m c t) 0 8 := zsum_congr 8 0 (fun t _ ht => by
    show (if (!decide (t = c) && zhas m (zcd c t) (znb m)) = true then zln m c t else 0) = zln m c t
    by_cases htc : t = c
    · rw [decide_eq_true htc, htc, i4 c hc]
      rfl
    · rw [decide_eq_false htc]
      rcases Nat.eq_zero_or_pos (zln m c t) with h0 | h0
      · rw [h0]
        split <;> rfl
      · obtain ⟨lo, hi, q1, q2, q3, q4⟩ := zcd_lh hc (show t < 8 by omega) (fun e => htc e.symm)
        have hp : 0 < zln m lo hi := by
          rcases q4 with ⟨rfl, rfl⟩ | ⟨rfl, rfl⟩
          · exact h0
          · rw [i3 _ _ (by omega) (by omega)]; exact h0
        obtain ⟨k, k1, k2⟩ := o3 lo hi q1 q2 hp
        rw [(zhas_iff (znb m)).mpr ⟨k, k1, by rw [k2, q3]⟩]
        rfl)
  rw [e1]
  have e2 := zsum_app (fun t => zln m c t) (zev8 m) 0 (8 - zev8 m)
  rw [show zev8 m + (8 - zev8 m) = 8 by omega] at e2
  have e3 := zsum_le (f := fun t => zln m c t) (b := 0) (8 - zev8 m) (0 + zev8 m) (fun t a b => by
    show zln m c t ≤ 0
    rcases Nat.eq_zero_or_pos (zln m c t) with h0 | h0
    · omega
    · have := zt_lt (zI_ev hI hc (show t < 8 by omega) h0).2
      omega)
  rw [e2]
  unfold zlns
  omega
theorem zn_lna1 {h : zHp} {m : Nat → Nat} (hS : zSr h 1 m) (hI : zI m) {c : Nat} (hc : c < 8) : ∀ (n k acc : Nat), k + n = znb m → zr_128 4 [some (.inr 6), some (.inl (nI c)), some (.inl (nI acc)), some (.inl (nI k))] [] h = some (some (nI (acc + zsum (fun k => if zinc2 c (zod m k) = true then zln m c (zth3 c (zod m k)) else 0) k n)), h) := by
  have hn := zB_nb hI.1
  have h6 : h 6 0 = nI (znb m) := hS.2.2.2.1
  intro n
  induction n with
  | zero =>
    intro k acc hk
    rw [zb_128_4, h6, zS_cge (by omega) (by omega), decide_eq_true (by omega), if_pos rfl]
    rfl
  | succ n ih =>
    intro k acc hk
    obtain ⟨lo, hi, p1, p2, p3, p4, q1, q2, q3, p5, t1, t2⟩ := zSr_at hS hI (show k < znb m by omega)
    rw [zb_128_4, h6, zS_cge (by omega) (by omega), decide_eq_false (by omega), if_neg (by decide), zS_ib _ (show k < 2147483648 by omega), decide_eq_true (show k < 28 by omega), if_pos rfl, if_pos rfl, if_pos rfl, zS_cl (show k < 2147483648 by omega), q1, q2, q3, zS_ceq (by omega) (by omega), zS_cne (by omega) (by omega), zS_add, zS_add]
    have ez : zsum (fun k => if zinc2 c (zod m k) = true then zln m c (zth3 c (zod m k)) else 0) k (n + 1) = (if zinc2 c (zod m k) = true then zln m c (zth3 c (zod m k)) else 0) + zsum (fun k => if zinc2 c (zod m k) = true then zln m c (zth3 c (zod m k)) else 0) (k + 1) n := rfl
    rw [ez]
    have ei : zinc2 c (zod m k) = (decide (lo = c) || decide (hi = c)) := by
      unfold zinc2
      rw [p3, p4]
    have e3 : zth3 c (zod m k) = if lo = c then hi else lo := by
      unfold zth3
      rw [p3, p4]
    rw [ei, e3]
    by_cases h1 : lo = c
    · rw [decide_eq_true h1, if_pos rfl, ih (k + 1) _ (by omega), if_pos h1, Bool.true_or, if_pos rfl, h1, Nat.add_assoc]
    · rw [decide_eq_false h1, if_neg (by decide), if_neg h1, Bool.false_or]
      by_cases h2 : hi = c
      · rw [decide_eq_true h2, if_neg (by decide), ih (k + 1) _ (by omega), if_pos rfl, ← h2, hI.2.2.2.1 hi lo p2 (by omega), Nat.add_assoc]
      · rw [decide_eq_false h2, if_pos (by decide), ih (k + 1) _ (by omega), if_neg (by decide), Nat.zero_add]
theorem zn_lna {h : zHp} {m : Nat → Nat} (hS : zSr h 1 m) (hI : zI m) {c : Nat} (hc : c < 8) : zM_128 [.inr 6, .inl (nI c)] h = some (some (nI (zlns m c)), h) := by
  rw [ze_128, zn_lna1 hS hI hc (znb m) 0 0 (by omega), zlna hI hc, Nat.zero_add]
/-- the colours without those that the neighbours forbid -/
def zcwl (m : Nat → Nat) (c : Nat) : Nat → Nat → Nat → Nat
  | _, 0, X => X
  | k, n + 1, X => zcwl m c (k + 1) n (if 0 < zln m c k then X &&& (255 ^^^ zfbs m (zof m k 1)) else X)
theorem zcwl_lt {m : Nat → Nat} {c : Nat} : ∀ (n k X : Nat), X < 256 → zcwl m c k n X < 256 := by
  intro n
  induction n with
  | zero => intro k X h; exact h
  | succ n ih =>
    intro k X h
    unfold zcwl
    refine ih _ _ ?_
    split
    · exact zclr_lt _ h
    · exact h
theorem zcwl_bit {m : Nat → Nat} {c v : Nat} : ∀ (n k X : Nat), X < 256 → ((zcwl m c k n X).testBit v = true ↔ X.testBit v = true ∧ ∀ j, k ≤ j → j < k + n → 0 < zln m c j → (zfbs m (zof m j 1)).testBit v = false) := by
  intro n
  induction n with
  | zero =>
    intro k X h
    exact ⟨fun a => ⟨a, fun j _ _ => by omega⟩, fun a => a.1⟩
  | succ n ih =>
    intro k X h
    unfold zcwl
    by_cases hl : 0 < zln m c k
    · rw [if_pos hl, ih _ _ (zclr_lt _ h), zclr_bit h, Bool.and_eq_true, Bool.not_eq_true']
      constructor
      · rintro ⟨⟨a, b⟩, d⟩
        refine ⟨a, fun j j1 j2 j3 => ?_⟩
        by_cases hj : j = k
        · rw [hj]; exact b
        · exact d j (by omega) (by omega) j3
      · rintro ⟨a, d⟩
        exact ⟨⟨a, d k (by omega) (by omega) hl⟩, fun j j1 j2 j3 => d j (by omega) (by omega) j3⟩
    · rw [if_neg hl, ih _ _ h]
      constructor
      · rintro ⟨a, d⟩
        refine ⟨a, fun j j1 j2 j3 => ?_⟩
        by_cases hj : j = k
        · rw [hj] at j3; exact absurd j3 hl
        · exact d j (by omega) (by omega) j3
      · rintro ⟨a, d⟩
        exact ⟨a, fun j j1 j2 j3 => d j (by omega) (by omega) j3⟩
theorem zsum_0 {f : Nat → Nat} : ∀ (n k : Nat), zsum f k n = 0 ↔ ∀ j, k ≤ j → j < k + n → f j = 0 := by
  intro n
  induction n with
  | zero =>
    intro k
    exact ⟨fun _ j _ _ => by omega, fun _ => rfl⟩
  | succ n ih =>
    intro k
    have e : zsum f k (n + 1) = f k + zsum f (k + 1) n := rfl
    rw [e]
    constructor
    · intro h j j1 j2
      by_cases hj : j = k
      · rw [hj]; omega
      · exact (ih (k + 1)).mp (by omega) j (by omega) (by omega)
    · intro h
      have h1 := h k (by omega) (by omega)
      have h2 := (ih (k + 1)).mpr (fun j j1 j2 => h j (by omega) (by omega))
      omega
theorem zcwl_cou {m : Nat → Nat} (hI : zI m) {c : Nat} (hc : c < 8) : zcwl m c 0 8 (zof m c 2) = zcou m c := by
  obtain ⟨hB, i1, i2, i3, i4, i5, i6, o1, o2, o3⟩ := id hI
  have b2 := zB_2 hB hc
  have he := zB_ev hB
  apply Nat.eq_of_testBit_eq
  intro v
  rw [Bool.eq_iff_iff, zcwl_bit 8 0 _ (by omega)]
  unfold zcou
  rw [zset8_bit]
  by_cases hv : v < 4
  · have hof : ∀ d w, w < 5 → zof (zu m (5 * c + 1) v) d w = if d = c ∧ w = 1 then v else zof m d w := fun d w hw => zof_u _ hc (by omega) hw
    have hev : zev8 (zu m (5 * c + 1) v) = zev8 m := zev_u _ (by omega)
    rw [decide_eq_true (show 0 ≤ v by omega), decide_eq_true (show v < 0 + 4 by omega), Bool.true_and, Bool.true_and]
    have ew : (!zwr (zu m (5 * c + 1) v) c) = true ↔ (zof m c 2).testBit v = true ∧ zcnt (zu m (5 * c + 1) v) c = 0 := by
      unfold zwr
      rw [hof c 2 (by omega), if_neg (by omega), hof c 1 (by omega), if_pos ⟨rfl, rfl⟩]
      cases (zof m c 2).testBit v
      · simp
      · simp
    rw [ew]
    unfold zcnt
    rw [hev, zsum_0]
    have hcf : ∀ j, j < 8 → 0 < zln m c j → (zcf (zu m (5 * c + 1) v) c j = (zfbs m (zof m j 1)).testBit v) := fun j hj hl => by
      have hjc : j ≠ c := by
        intro e
        subst e
        have := i4 j hj
        omega
      have b1 := zB_1 hB hj
      unfold zcf
      rw [zln_u _ (by omega), decide_eq_true hl, Bool.true_and, hof c 1 (by omega), if_pos ⟨rfl, rfl⟩, hof j 1 (by omega), if_neg (by omega), zbd_u _ (by omega), zfbs_bits, decide_eq_true hv, Bool.true_and, i6 v (zof m j 1) hv (by omega)]
    constructor
    · rintro ⟨a, d⟩
      refine ⟨a, fun j _ j2 => ?_⟩
      show (zcf (zu m (5 * c + 1) v) c j).toNat = 0
      rcases Nat.eq_zero_or_pos (zln m c j) with h0 | h0
      · unfold zcf
        rw [zln_u _ (by omega), decide_eq_false (by omega)]
        rfl
      · rw [hcf j (by omega) h0, d j (by omega) (by omega) h0]
        rfl
    · rintro ⟨a, d⟩
      refine ⟨a, fun j _ j2 j3 => ?_⟩
      have hj := zt_lt (zI_ev hI hc (show j < 8 by omega) j3).2
      have := d j (by omega) (by omega)
      rw [← hcf j (by omega) j3]
      cases hb : zcf (zu m (5 * c + 1) v) c j with
      | false => rfl
      | true =>
        rw [hb] at this
        cases this
  · rw [decide_eq_false (show ¬ v < 0 + 4 by omega)]
    constructor
    · rintro ⟨a, _⟩
      have h0 : (zof m c 2).testBit v = false := Nat.testBit_lt_two_pow (Nat.lt_of_lt_of_le (show zof m c 2 < 2 ^ 4 by omega) (Nat.pow_le_pow_right (n := 2) (by omega) (show 4 ≤ v by omega)))
      rw [h0] at a
      cases a
    · intro a
      simp at a
theorem zn_cww1 {h : zHp} {m : Nat → Nat} (hS : zSr h 1 m) (hI : zI m) {c : Nat} (hc : c < 8) (d1 : Option zV) : ∀ (n k X : Nat), k + n = 8 → X < 256 → zr_129 19 [some (.inr 1), d1, some (.inl (nI (znbs m c))), some (.inl (nI X)), some (.inl (nI k))] [] h = some (some (nI (zcwl m c k n X)), h) := by
  have he := zB_ev hI.1
  have hnl : znbs m c < 256 := zset8_lt _ he
  intro n
  induction n with
  | zero =>
    intro k X hk hX
    rw [zb_129_19, zS_cge (by omega) (by omega), decide_eq_true (by omega), if_pos rfl]
    rfl
  | succ n ih =>
    intro k X hk hX
    rw [zb_129_19, zS_cge (by omega) (by omega), decide_eq_false (by omega), if_neg (by decide), zn_has h hnl (by omega), znbs_bit hI hc (by omega)]
    simp only [Option.bind_some, zpush]
    rw [zb_129_32, zS_b0, zS_add]
    have es : zcwl m c k (n + 1) X = zcwl m c (k + 1) n (if 0 < zln m c k then X &&& (255 ^^^ zfbs m (zof m k 1)) else X) := rfl
    rw [es]
    by_cases h1 : 0 < zln m c k
    · have tk := (zI_ev hI hc (show k < 8 by omega) h1).2
      have c1 : h 2 k = nI (zof m k 1) := (hS.2.1 k (by omega) tk).1
      have b1 := zB_1 hI.1 (show k < 8 by omega)
      rw [decide_eq_true h1, if_neg (by decide), if_pos h1, zS_ib _ (show k < 2147483648 by omega), decide_eq_true (show k < 8 by omega), if_pos rfl, zS_cl (show k < 2147483648 by omega), c1, zS_ib _ (by omega), decide_eq_true (by omega), if_pos rfl, zS_cl (by omega), show h 5 (zof m k 1) = nI (zfbs m (zof m k 1)) from hS.2.2.1 _ (by omega), zS_clr _ hX]
      exact ih (k + 1) _ (by omega) (zclr_lt _ hX)
    · rw [decide_eq_false h1, if_pos (by decide), if_neg h1]
      exact ih (k + 1) _ (by omega) hX
theorem zn_cww {h : zHp} {m : Nat → Nat} (hS : zSr h 1 m) (hI : zI m) {c : Nat} (hc : c < 8) (ht : zt m c = true) : zM_129 [.inr 1, .inl (nI c)] h = some (some (nI (zcou m c)), h) := by
  have b2 := zB_2 hI.1 hc
  rw [ze_129, zn_nbs hS hI hc]
  simp only [Option.bind_some, zpush]
  rw [zb_129_8, zS_ib _ (by omega), decide_eq_true hc, if_pos rfl, zS_cl (by omega), show h 3 c = nI (zof m c 2) from (hS.2.1 c hc ht).2.1, zn_cww1 hS hI hc _ 8 0 _ (by omega) (by omega), zcwl_cou hI hc]
theorem zn_country {h : zHp} {m : Nat → Nat} (hS : zSr h 1 m) (hI : zI m) (c w : Int32) : zM_130 [.inr 0, .inl c, .inl w] h = some (some (zqCountry m c w), h) := by
  have hB := hI.1
  have he := zB_ev hB
  rw [ze_130, zn_there hS hB]
  simp only [Option.bind_some, zpush]
  rw [zb_130_8, zS_b0n]
  unfold zqCountry
  cases h1 : zth m c with
  | false => rfl
  | true =>
    obtain ⟨n, hn, hn1, rfl⟩ := zth_of h1
    have tn := zt_of hn hn1
    have hn8 : n < 8 := by omega
    obtain ⟨v1, v2, v3⟩ := hS.2.1 n hn8 tn
    have v1 : h 2 n = nI (zof m n 1) := v1
    have v2 : h 3 n = nI (zof m n 2) := v2
    have v3 : h 4 n = nI (zof m n 3) := v3
    have b4 := zB_4 hB hn8
    rw [if_pos rfl, if_neg (by decide), zS_cl (show n < 2147483648 by omega)]
    rcases zsw w (n := 8) (by omega) with hx | ⟨k, hk, rfl⟩
    · have hne : ∀ k, k ≤ 8 → w ≠ nI k := by
        intro k hk e
        subst e
        rw [nI_toInt (by omega)] at hx
        omega
      rw [zb_130_14_d _ _ _ _ hx, zb_130_173, if_neg (hne 0 (by omega)), if_neg (hne 1 (by omega)), if_neg (hne 2 (by omega)), if_neg (hne 3 (by omega)), if_neg (hne 4 (by omega)), if_neg (hne 5 (by omega)), if_neg (hne 6 (by omega)), if_neg (hne 7 (by omega)), if_neg (hne 8 (by omega))]
    · have hc : k = 0 ∨ k = 1 ∨ k = 2 ∨ k = 3 ∨ k = 4 ∨ k = 5 ∨ k = 6 ∨ k = 7 ∨ k = 8 := by omega
      rcases hc with rfl | rfl | rfl | rfl | rfl | rfl | rfl | rfl | rfl
      · rw [zb_130_14_c0, zS_ib _ (by omega), decide_eq_true hn8, if_pos rfl, zS_cl (show n < 2147483648 by omega), v1]
        rfl
      · rw [zb_130_14_c1, zS_ib _ (by omega), decide_eq_true hn8, if_pos rfl, zS_cl (show n < 2147483648 by omega), v2]
        rfl
      · rw [zb_130_14_c2, zS_ib _ (by omega), decide_eq_true hn8, if_pos rfl, zS_cl (show n < 2147483648 by omega), v3]
        rfl
      · rw [zb_130_14_c3, zn_fixed hS hB hn8 tn]
        simp only [Option.bind_some, zpush]
        rw [zb_130_102, zS_b0]
        have : zof m n 4 = (decide (zof m n 4 = 1)).toNat := by
          by_cases h4 : zof m n 4 = 1
          · rw [decide_eq_true h4, h4]; rfl
          · rw [decide_eq_false h4]
            show zof m n 4 = 0
            omega
        rw [this]
        cases decide (zof m n 4 = 1) <;> rfl
      · rw [zb_130_14_c4, zn_nbs hS hI hn8]
        simp only [Option.bind_some, zpush]
        rw [zb_130_122]
        rfl
      · rw [zb_130_14_c5, zn_lna hS hI hn8]
        simp only [Option.bind_some, zpush]
        rw [zb_130_134]
        rfl
      · rw [zb_130_14_c6, zn_cfs hS hI hn8 tn]
        simp only [Option.bind_some, zpush]
        rw [zb_130_143, zn_bits _ (show zcfs m n < 256 from zset8_lt _ (by omega))]
        simp only [Option.bind_some, zpush]
        rw [zb_130_146, zcfs_cnt hI hn8]
        rfl
      · rw [zb_130_14_c7, zn_wrong hS hI hn8 tn]
        simp only [Option.bind_some, zpush]
        rw [zb_130_155, zS_b0]
        cases zwr m n <;> rfl
      · rw [zb_130_14_c8, zn_cww hS hI hn8 tn]
        simp only [Option.bind_some, zpush]
        rw [zb_130_172]
        rfl
theorem zn_border {h : zHp} {m : Nat → Nat} (hS : zSr h 1 m) (hI : zI m) (a b : Int32) : zM_131 [.inr 0, .inl a, .inl b] h = some (some (zqBorder m a b), h) := by
  have hB := hI.1
  have he := zB_ev hB
  rw [ze_131, zn_there hS hB]
  simp only [Option.bind_some, zpush]
  rw [zb_131_8, zS_b0]
  unfold zqBorder
  cases h1 : zth m a with
  | false => rfl
  | true =>
    rw [if_neg (by decide), if_neg (by decide), zn_there hS hB]
    simp only [Option.bind_some, zpush]
    rw [zb_131_19, zS_b0n]
    cases h2 : zth m b with
    | false => rfl
    | true =>
      obtain ⟨n, hn, hn1, rfl⟩ := zth_of h1
      obtain ⟨k, hk, hk1, rfl⟩ := zth_of h2
      rw [if_pos rfl, if_neg (show ¬ (true = false) by decide), zS_cne (by omega) (by omega)]
      by_cases h3 : n = k
      · rw [decide_eq_true h3, if_neg (by decide), if_pos (by rw [h3])]
      · rw [decide_eq_false h3, if_pos (by decide), zn_len hS hI (by omega) (by omega) h3, if_neg (znI_ne (by omega) (by omega) h3), zS_cl (show n < 2147483648 by omega), zS_cl (show k < 2147483648 by omega)]
        simp only [Option.bind_some, zpush]
        rw [zb_131_44]
theorem zn_at {h : zHp} {m : Nat → Nat} (hS : zSr h 1 m) (hI : zI m) (n : Int32) : zM_132 [.inr 0, .inl n] h = some (some (zqAt m n), h) := by
  have hn := zB_nb hI.1
  have h6 : h 6 0 = nI (znb m) := hS.2.2.2.1
  rw [ze_132, h6]
  unfold zqAt
  by_cases h1 : n < nI 0
  · have e : zci .ge n (nI 0) = false := by
      show decide (nI 0 ≤ n) = false
      exact decide_eq_false (fun e => absurd h1 (Int32.not_lt.mpr e))
    rw [e, if_neg (by decide), if_pos h1]
  · have e : zci .ge n (nI 0) = true := by
      show decide (nI 0 ≤ n) = true
      exact decide_eq_true (Int32.not_lt.mp h1)
    obtain ⟨k, hk, rfl⟩ := nI_of (x := n) h1
    rw [e, if_pos rfl, if_neg h1, zS_clt (by omega) (by omega), zS_cl hk]
    by_cases h2 : znb m ≤ k
    · rw [decide_eq_false (by omega), if_neg (by decide), if_pos h2]
    · obtain ⟨lo, hi, p1, p2, p3, p4, q1, q2, q3, p5, t1, t2⟩ := zSr_at hS hI (show k < znb m by omega)
      rw [decide_eq_true (by omega), if_pos rfl, if_neg h2, zS_ib _ (by omega), decide_eq_true (by omega), if_pos rfl, if_pos rfl, q1, q2, zS_mul, zS_add, show 10 * lo + hi = zod m k by omega]
theorem zn_forb {h : zHp} {m : Nat → Nat} (hS : zSr h 1 m) (a b : Int32) : zM_133 [.inr 0, .inl a, .inl b] h = some (some (zqForb m a b), h) := by
  rw [ze_133, zn_col]
  simp only [Option.bind_some, zpush]
  rw [zb_133_4, zS_b0]
  unfold zqForb
  cases h1 : zcol a with
  | false => rfl
  | true =>
    rw [if_neg (by decide), if_neg (by decide), zn_col]
    simp only [Option.bind_some, zpush]
    rw [zb_133_11, zS_b0n]
    cases h2 : zcol b with
    | false => rfl
    | true =>
      obtain ⟨n, hn, rfl⟩ := zcol_of h1
      obtain ⟨k, hk, rfl⟩ := zcol_of h2
      rw [if_pos rfl, if_neg (by decide), zn_pair hS hn hk, zS_cl (show n < 2147483648 by omega), zS_cl (show k < 2147483648 by omega)]
      simp only [Option.bind_some, zpush]
      rw [zb_133_26, zS_b0]
      cases decide (zbd m n k = 1) <;> rfl
