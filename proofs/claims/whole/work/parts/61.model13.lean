/-! chain, exchange. -/
def zbar (m : Nat → Nat) (c v : Int32) : Bool := !zth m c || (!zcol v || decide (nI (zof m c.toNatClampNeg 1) = v))
theorem zm_bar {h : zHp} {m : Nat → Nat} (hR : zR h m) (hB : zB m) (c v : Int32) : zM_37 [.inr 76, .inl c, .inl v] h = some (some (nI (zbar m c v).toNat), h) := by
  have he := zB_ev hB
  rw [ze_37, zm_no hR hB]
  simp only [Option.bind_some, zpush]
  rw [zb_37_5, zS_b0n, zS_bo1, if_pos rfl]
  unfold zbar
  cases h1 : zth m c with
  | false => rfl
  | true =>
    obtain ⟨n, hn, hn1, rfl⟩ := zth_of h1
    have h3 := zB_1 hB (c := n) (by omega)
    rw [if_neg (by decide), zm_col]
    simp only [Option.bind_some, zpush]
    rw [zb_37_12, zS_b0, zS_bo1, if_pos rfl]
    cases h2 : zcol v with
    | false => rfl
    | true =>
      obtain ⟨k, hk, rfl⟩ := zcol_of h2
      rw [if_neg (by decide), zm_of hR (by omega), zS_cl (show n < 2147483648 by omega)]
      simp only [Option.bind_some, zpush]
      rw [zb_37_21, zS_cne (by omega) (by omega), zS_bo0, zS_bo1, if_pos rfl, if_pos rfl, decide_eq_decide.mpr (show nI (zof m n 1) = nI k ↔ zof m n 1 = k by rw [zS_eq (by omega) (by omega)])]
      cases decide (zof m n 1 = k) <;> rfl
/-- what is not barred -/
theorem zbar_of {m : Nat → Nat} {c v : Int32} (h : zbar m c v = false) : ∃ n k, c = nI n ∧ v = nI k ∧ n < zev8 m ∧ zof m n 0 = 1 ∧ k < 4 ∧ zof m c.toNatClampNeg 1 ≠ k := by
  unfold zbar at h
  simp only [Bool.or_eq_false_iff, Bool.not_eq_false', decide_eq_false_iff_not] at h
  obtain ⟨h1, h2, h3⟩ := h
  obtain ⟨n, hn, hn1, rfl⟩ := zth_of h1
  obtain ⟨k, hk, rfl⟩ := zcol_of h2
  exact ⟨n, k, rfl, rfl, hn, hn1, hk, fun e => h3 (by rw [e])⟩
noncomputable def zqChain (m : Nat → Nat) (c v : Int32) : Int32 := if zbar m c v = true then (if zth m c = false then -1 else -2) else nI (zchn m c.toNatClampNeg v.toNatClampNeg)
theorem zm_chain {h : zHp} {m : Nat → Nat} (hR : zR h m) (hI : zI m) (c v : Int32) : zM_58 [.inr 76, .inl c, .inl v] h = some (some (zqChain m c v), h) := by
  have hB := hI.1
  have he := zB_ev hB
  rw [ze_58, zm_bar hR hB]
  simp only [Option.bind_some, zpush]
  rw [zb_58_6, zS_b0]
  unfold zqChain
  cases h1 : zbar m c v with
  | true =>
    rw [if_neg (by decide), if_pos rfl, zm_no hR hB]
    simp only [Option.bind_some, zpush]
    rw [zb_58_14, zS_b0, Bool.not_not]
    cases zth m c <;> rfl
  | false =>
    obtain ⟨n, k, rfl, rfl, hn, hn1, hk, hne⟩ := zbar_of h1
    rw [if_pos (by decide), if_neg (by decide), zm_chn hR hI hn hk, zS_cl (show n < 2147483648 by omega), zS_cl (show k < 2147483648 by omega)]
    simp only [Option.bind_some, zpush]
    rw [zb_58_30]
def zalls (p : Nat → Bool) : Nat → Nat → Bool
  | _, 0 => true
  | k, n + 1 => p k && zalls p (k + 1) n
theorem zalls_of {p : Nat → Bool} : ∀ (n k : Nat), zalls p k n = true ↔ ∀ j, k ≤ j → j < k + n → p j = true := by
  intro n
  induction n with
  | zero => intro k; exact ⟨fun _ j a b => by omega, fun _ => rfl⟩
  | succ n ih =>
    intro k
    unfold zalls
    rw [Bool.and_eq_true, ih]
    constructor
    · rintro ⟨a, b⟩ j h1 h2
      by_cases hj : j = k
      · rw [hj]; exact a
      · exact b j (by omega) (by omega)
    · intro a
      exact ⟨a k (by omega) (by omega), fun j h1 h2 => a j (by omega) (by omega)⟩
/-- a member of the set that may change -/
def zexp (m : Nat → Nat) (S t : Nat) (o : Nat) : Bool := !S.testBit o || (!decide (zof m o 4 = 1) && (zof m o 2).testBit (t - zof m o 1))
theorem zm_ex1 {h : zHp} {m : Nat → Nat} (hR : zR h m) (hB : zB m) {S own v : Nat} (hS : S < 256) (hv : v < 4) (hown : own < 4) (hcol : ∀ o, S.testBit o = true → zof m o 1 = v ∨ zof m o 1 = own) : ∀ (n o : Nat) (d1 d6 : Option zV), o + n = zev8 m → ∃ d6' : Option zV, zr_39 42 [some (.inr 76), d1, some (.inl (nI v)), some (.inl (nI own)), some (.inl (nI S)), some (.inl (nI o)), d6] [] h = if zalls (zexp m S (own + v)) o n = true then (zM_2 [.inr 76] h).bind (fun r => zr_39 118 [some (.inr 76), d1, some (.inl (nI v)), some (.inl (nI own)), some (.inl (nI S)), some (.inl (nI (zev8 m))), d6'] (zpush r.1 []) r.2) else some (some (-4), h) := by
  have he := zB_ev hB
  intro n
  induction n with
  | zero =>
    intro o d1 d6 ho
    have ho : o = zev8 m := by omega
    subst ho
    refine ⟨d6, ?_⟩
    rw [zb_39_42, zg149, zR_149 hR, zS_cge (by omega) (by omega), if_pos rfl, decide_eq_true (by omega), if_pos rfl, if_pos (show zalls (zexp m S (own + v)) (zev8 m) 0 = true from rfl)]
  | succ n ih =>
    intro o d1 d6 ho
    have h1 := zB_1 hB (c := o) (by omega)
    have h2 := zB_2 hB (c := o) (by omega)
    have h4 := zB_4 hB (c := o) (by omega)
    have start : zr_39 42 [some (.inr 76), d1, some (.inl (nI v)), some (.inl (nI own)), some (.inl (nI S)), some (.inl (nI o)), d6] [] h = zr_39 65 [some (.inr 76), d1, some (.inl (nI v)), some (.inl (nI own)), some (.inl (nI S)), some (.inl (nI o)), d6] [.inl (nI (zof m o 1)), .inl (nI (own + v))] h := by
      rw [zb_39_42, zg149, zR_149 hR, zS_cge (by omega) (by omega), if_pos rfl, decide_eq_false (by omega), if_neg (by decide), zm_of hR (by omega), zS_add]
      simp only [Option.bind_some, zpush]
    rw [zb_39_65, zS_sbit1 hS (by omega), zS_add] at start
    have hz : zalls (zexp m S (own + v)) o (n + 1) = (zexp m S (own + v) o && zalls (zexp m S (own + v)) (o + 1) n) := rfl
    rw [hz]
    cases h5 : S.testBit o with
    | false =>
      have hx : zexp m S (own + v) o = true := by unfold zexp; rw [h5]; rfl
      rw [h5, if_pos (by decide)] at start
      rw [hx, Bool.true_and]
      obtain ⟨d6', e1⟩ := ih (o + 1) d1 (some (.inl (nI (own + v) - nI (zof m o 1)))) (by omega)
      exact ⟨d6', start.trans e1⟩
    | true =>
      have hc := hcol o h5
      rw [h5, if_neg (by decide), zm_of hR (by omega)] at start
      simp only [Option.bind_some, zpush] at start
      rw [zS_sub (by omega), zb_39_86, zS_ceq (by omega) (by omega)] at start
      by_cases h6 : zof m o 4 = 1
      · have hx : zexp m S (own + v) o = false := by unfold zexp; rw [h5, decide_eq_true h6]; rfl
        rw [decide_eq_true h6, if_pos rfl] at start
        rw [hx, Bool.false_and]
        exact ⟨none, by rw [if_neg (by decide)]; exact start⟩
      · rw [decide_eq_false h6, if_neg (by decide), zm_of hR (by omega)] at start
        simp only [Option.bind_some, zpush] at start
        rw [zb_39_97, zS_sbit (by omega) (by omega), zS_add] at start
        cases h7 : (zof m o 2).testBit (own + v - zof m o 1) with
        | false =>
          have hx : zexp m S (own + v) o = false := by unfold zexp; rw [h5, h7, Bool.and_false]; rfl
          rw [h7, if_neg (by decide)] at start
          rw [hx, Bool.false_and]
          exact ⟨none, by rw [if_neg (by decide)]; exact start⟩
        | true =>
          have hx : zexp m S (own + v) o = true := by unfold zexp; rw [h7, decide_eq_false h6]; simp
          rw [h7, if_pos rfl] at start
          rw [hx, Bool.true_and]
          obtain ⟨d6', e1⟩ := ih (o + 1) d1 (some (.inl (nI (own + v - zof m o 1)))) (by omega)
          exact ⟨d6', start.trans e1⟩
/-- the row with the colours of a set exchanged, for the first x countries -/
def zmEx (m : Nat → Nat) (S t x : Nat) : Nat → Nat := fun j => if j < 5 * x ∧ j % 5 = 1 ∧ S.testBit (j / 5) = true then t - m j else m j
theorem zmEx_0 (m : Nat → Nat) (S t : Nat) : zmEx m S t 0 = m := by
  funext j
  unfold zmEx
  rw [if_neg (by omega)]
theorem zmEx_step (m : Nat → Nat) (S t x : Nat) : zmEx m S t (x + 1) = if S.testBit x = true then zu (zmEx m S t x) (5 * x + 1) (t - zof m x 1) else zmEx m S t x := by
  split
  · rename_i h
    funext j
    unfold zu
    by_cases hj : j = 5 * x + 1
    · rw [if_pos hj]
      unfold zmEx
      rw [if_pos ⟨by omega, by omega, by rw [show j / 5 = x by omega]; exact h⟩, hj]
      rfl
    · rw [if_neg hj]
      unfold zmEx
      by_cases h2 : j < 5 * x ∧ j % 5 = 1 ∧ S.testBit (j / 5) = true
      · rw [if_pos h2, if_pos ⟨by omega, h2.2.1, h2.2.2⟩]
      · rw [if_neg h2, if_neg (fun e => h2 ⟨by omega, e.2.1, e.2.2⟩)]
  · rename_i h
    funext j
    unfold zmEx
    by_cases h2 : j < 5 * x ∧ j % 5 = 1 ∧ S.testBit (j / 5) = true
    · rw [if_pos h2, if_pos ⟨by omega, h2.2.1, h2.2.2⟩]
    · rw [if_neg h2, if_neg (fun e => h2 ⟨by
        have : j / 5 ≠ x := fun q => h (by rw [← q]; exact e.2.2)
        omega, e.2.1, e.2.2⟩)]
theorem zmEx_un (m : Nat → Nat) (S t x : Nat) {j : Nat} (hj : 40 ≤ j ∨ j % 5 ≠ 1) (hx : x ≤ 8) : zmEx m S t x j = m j := by
  unfold zmEx
  rw [if_neg (by omega)]
theorem zmEx_up (m : Nat → Nat) (S t x : Nat) {o : Nat} (ho : x ≤ o) : zof (zmEx m S t x) o 1 = zof m o 1 := by
  unfold zmEx zof
  dsimp only
  rw [if_neg (by omega)]
theorem zm_ex2 {m : Nat → Nat} {hs : List (Nat → Nat)} {sn : Option (Nat → Nat)} {tx : List Nat} (hB : zB m) {S own v : Nat} (hS : S < 256) (hv : v < 4) (hown : own < 4) (hcol : ∀ o, S.testBit o = true → zof m o 1 = v ∨ zof m o 1 = own) : ∀ (n o : Nat) (h : zHp) (d1 d6 : Option zV), o + n = zev8 m → zMV h (zmEx m S (own + v) o) hs sn tx → ∃ h', zr_39 121 [some (.inr 76), d1, some (.inl (nI v)), some (.inl (nI own)), some (.inl (nI S)), some (.inl (nI o)), d6] [] h = some (some (nI (zbits S)), h') ∧ zMV h' (zmEx m S (own + v) (zev8 m)) hs sn tx ∧ zlo h h' := by
  have he := zB_ev hB
  intro n
  induction n with
  | zero =>
    intro o h d1 d6 ho hV
    have ho : o = zev8 m := by omega
    subst ho
    refine ⟨h, ?_, hV, zlo_rf h⟩
    have h9 : zev8 (zmEx m S (own + v) (zev8 m)) = zev8 m := zmEx_un _ _ _ _ (by omega) he
    rw [zb_39_121, zg149, zR_149 hV.1, h9, zS_cge (by omega) (by omega), if_pos rfl, decide_eq_true (by omega), if_pos rfl, zm_bits h hS]
    simp only [Option.bind_some, zpush]
    rw [zb_39_174]
  | succ n ih =>
    intro o h d1 d6 ho hV
    have h1 := zB_1 hB (c := o) (by omega)
    have h9 : zev8 (zmEx m S (own + v) o) = zev8 m := zmEx_un _ _ _ _ (by omega) (by omega)
    have hst := zmEx_step m S (own + v) o
    rw [zb_39_121, zg149, zR_149 hV.1, h9, zS_cge (by omega) (by omega), if_pos rfl, decide_eq_false (by omega), if_neg (by decide), zS_sbit1 hS (by omega), zS_add]
    cases h5 : S.testBit o with
    | false =>
      rw [h5, if_neg (by decide)] at hst
      rw [← hst] at hV
      rw [if_pos (by decide), zb_39_163, zS_add]
      exact ih (o + 1) h d1 d6 (by omega) hV
    | true =>
      have hc := hcol o h5
      rw [h5, if_pos rfl] at hst
      have hV2 := zMV_up hV (5 * o + 1) (own + v - zof m o 1)
      rw [← hst] at hV2
      obtain ⟨h', e1, e2, e3⟩ := ih (o + 1) _ d1 d6 (by omega) hV2
      refine ⟨h', ?_, e2, zlo_tr (zlo_up (zlo_rf h) (by omega) _ _) e3⟩
      rw [if_neg (by decide), zm_of hV.1 (by omega), zmEx_up _ _ _ _ (Nat.le_refl _)]
      simp only [Option.bind_some, zpush]
      rw [zb_39_159, zS_sub (by omega), zm_puts _ (by omega)]
      simp only [Option.bind_some, zpush]
      rw [zb_39_163, zS_add]
      exact e1
theorem zI_ex {m : Nat → Nat} (h : zI m) {S own v : Nat} (hv : v < 4) (hown : own < 4) (hcol : ∀ o, S.testBit o = true → zof m o 1 = v ∨ zof m o 1 = own) : ∀ x, x ≤ 8 → zI (zmEx m S (own + v) x) := by
  intro x
  induction x with
  | zero => intro _; rw [zmEx_0]; exact h
  | succ x ih =>
    intro hx
    rw [zmEx_step]
    split
    · rename_i h5
      have hc := hcol x h5
      exact zI_field (by omega) (by omega) (by omega) ⟨fun _ => by omega, fun e => by omega, fun e => by omega, fun e => by omega⟩ (ih (by omega))
    · exact ih (by omega)
noncomputable def zoExch (m : Nat → Nat) (c v : Int32) : Int32 × Option (Nat → Nat) :=
  if zbar m c v = true then ((if zth m c = false then -1 else -2), none)
  else if zalls (zexp m (zchn m c.toNatClampNeg v.toNatClampNeg) (zof m c.toNatClampNeg 1 + v.toNatClampNeg)) 0 (zev8 m) = true then (nI (zbits (zchn m c.toNatClampNeg v.toNatClampNeg)), some (zmEx m (zchn m c.toNatClampNeg v.toNatClampNeg) (zof m c.toNatClampNeg 1 + v.toNatClampNeg) (zev8 m)))
  else (-4, none)
theorem zchn_col {m : Nat → Nat} {c v : Nat} : ∀ o, (zchn m c v).testBit o = true → zof m o 1 = v ∨ zof m o 1 = zof m c 1 := by
  intro o ho
  by_cases h8 : o < 8
  · exact zRch_col ((zchn_bit h8).mp ho)
  · have hp : 2 ^ 8 ≤ 2 ^ o := Nat.pow_le_pow_right (by omega) (by omega)
    rw [Nat.testBit_lt_two_pow (by have := zchn_lt m c v; omega)] at ho
    cases ho
theorem zI_exch {m : Nat → Nat} (h : zI m) (c v : Int32) (m' : Nat → Nat) (hm : (zoExch m c v).2 = some m') : zI m' := by
  unfold zoExch at hm
  split at hm
  · cases hm
  rename_i h1
  split at hm
  · cases hm
    have he := zB_ev h.1
    obtain ⟨n, k, rfl, rfl, hn, hn1, hk, hne⟩ := zbar_of (m := m) (c := c) (v := v) (by simpa using h1)
    rw [zS_cl (by omega), zS_cl (by omega)]
    have h3 := zB_1 h.1 (c := n) (by omega)
    exact zI_ex h hk (by omega) zchn_col _ he
  · cases hm
theorem zm_exch {h : zHp} {m : Nat → Nat} {hs : List (Nat → Nat)} {sn : Option (Nat → Nat)} {tx : List Nat} (hV : zMV h m hs sn tx) (hI : zI m) (c v : Int32) : zAns (zM_39 [.inr 76, .inl c, .inl v]) (zoExch m c v) h m hs sn tx := by
  have hR := hV.1
  have hB := hI.1
  have he := zB_ev hB
  have e1 := ze_39 c v h
  rw [zm_bar hR hB] at e1
  simp only [Option.bind_some, zpush] at e1
  rw [zb_39_6, zS_b0] at e1
  unfold zoExch
  cases h1 : zbar m c v with
  | true =>
    rw [h1, if_neg (by decide), zm_no hR hB] at e1
    simp only [Option.bind_some, zpush] at e1
    rw [zb_39_14, zS_b0, Bool.not_not] at e1
    rw [if_pos rfl]
    cases h2 : zth m c with
    | false =>
      rw [h2, if_neg (by decide)] at e1
      exact zAns_no hV e1
    | true =>
      rw [h2, if_pos rfl] at e1
      exact zAns_no hV e1
  | false =>
    obtain ⟨n, k, rfl, rfl, hn, hn1, hk, hne⟩ := zbar_of h1
    rw [h1, if_pos (by decide), zm_of hR (by omega)] at e1
    simp only [Option.bind_some, zpush] at e1
    rw [zb_39_30, zm_chn hR hI hn hk] at e1
    simp only [Option.bind_some, zpush] at e1
    rw [zb_39_37] at e1
    rw [if_neg (by decide), zS_cl (show n < 2147483648 by omega), zS_cl (show k < 2147483648 by omega)]
    have h3 := zB_1 hB (c := n) (by omega)
    obtain ⟨d6', e2⟩ := zm_ex1 hR hB (zchn_lt m n k) hk (own := zof m n 1) (by omega) zchn_col (zev8 m) 0 (some (.inl (nI n))) none (by omega)
    rw [e2] at e1
    by_cases h4 : zalls (zexp m (zchn m n k) (zof m n 1 + k)) 0 (zev8 m) = true
    · obtain ⟨h', p1, p2, p3⟩ := zm_recV hV
      rw [if_pos h4, p1] at e1
      simp only [Option.bind_some, zpush] at e1
      rw [if_pos h4]
      obtain ⟨h'', q1, q2, q3⟩ := zm_ex2 (m := m) (hs := zph hs m) (sn := sn) (tx := tx) hB (zchn_lt m n k) hk (own := zof m n 1) (by omega) zchn_col (zev8 m) 0 h' (some (.inl (nI n))) d6' (by omega) (by rw [zmEx_0]; exact p2)
      rw [zb_39_118, q1] at e1
      exact ⟨_, e1, q2, zlo_tr p3 q3⟩
    · rw [if_neg h4] at e1
      rw [if_neg h4]
      exact zAns_no hV e1
