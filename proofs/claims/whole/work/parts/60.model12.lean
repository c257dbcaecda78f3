/-! chain and exchange of the reference. -/
def zRk (m : Nat → Nat) (c v : Nat) : Nat → Nat → Prop
  | 0, o => o = c
  | k + 1, o => zRk m c v k o ∨ ∃ j, zRk m c v k j ∧ zt m o = true ∧ (zof m o 1 = v ∨ zof m o 1 = zof m c 1) ∧ 0 < zln m o j
def zRch (m : Nat → Nat) (c v o : Nat) : Prop := ∃ k, zRk m c v k o
theorem zRch_base {m : Nat → Nat} {c v : Nat} : zRch m c v c := ⟨0, rfl⟩
theorem zRch_step {m : Nat → Nat} {c v j o : Nat} (h : zRch m c v j) (h1 : zt m o = true) (h2 : zof m o 1 = v ∨ zof m o 1 = zof m c 1) (h3 : 0 < zln m o j) : zRch m c v o := by
  obtain ⟨k, hk⟩ := h
  exact ⟨k + 1, Or.inr ⟨j, hk, h1, h2, h3⟩⟩
theorem zRch_ind {m : Nat → Nat} {c v : Nat} {P : Nat → Prop} (h0 : P c) (h1 : ∀ j o, P j → zt m o = true → (zof m o 1 = v ∨ zof m o 1 = zof m c 1) → 0 < zln m o j → P o) : ∀ {o : Nat}, zRch m c v o → P o := by
  intro o ho
  obtain ⟨k, hk⟩ := ho
  have h2 : ∀ (k o : Nat), zRk m c v k o → P o := by
    intro k
    induction k with
    | zero => intro o ho; rw [show o = c from ho]; exact h0
    | succ k ih =>
      intro o ho
      rcases ho with ho | ⟨j, a, b, d, e⟩
      · exact ih o ho
      · exact h1 j o (ih j a) b d e
  exact h2 k o hk
theorem zt_lt {m : Nat → Nat} {o : Nat} (h : zt m o = true) : o < zev8 m := by
  unfold zt at h
  simp only [Bool.and_eq_true, decide_eq_true_eq] at h
  exact h.1
theorem zt_of {m : Nat → Nat} {n : Nat} (hn : n < zev8 m) (h1 : zof m n 0 = 1) : zt m n = true := by
  unfold zt
  rw [decide_eq_true hn, decide_eq_true h1]
  rfl
noncomputable def zchn (m : Nat → Nat) (c v : Nat) : Nat := zset8 (fun o => @decide (zRch m c v o) (Classical.propDecidable _)) 0 8
theorem zRch_lt {m : Nat → Nat} {c v o : Nat} (hc : c < zev8 m) (h : zRch m c v o) : o < zev8 m := by
  exact zRch_ind (P := fun o => o < zev8 m) hc (fun _ _ _ h2 _ _ => zt_lt h2) h
theorem zRch_col {m : Nat → Nat} {c v o : Nat} (h : zRch m c v o) : zof m o 1 = v ∨ zof m o 1 = zof m c 1 := by
  exact zRch_ind (P := fun o => zof m o 1 = v ∨ zof m o 1 = zof m c 1) (Or.inr rfl) (fun _ _ _ _ h3 _ => h3) h
theorem zchn_bit {m : Nat → Nat} {c v o : Nat} (ho : o < 8) : (zchn m c v).testBit o = true ↔ zRch m c v o := by
  unfold zchn
  rw [zset8_bit]
  simp [ho]
theorem zchn_lt (m : Nat → Nat) (c v : Nat) : zchn m c v < 256 := zset8_lt _ (by omega)
/-- a set that is the chain -/
theorem zchn_is {m : Nat → Nat} {c v S : Nat} (hc : c < zev8 m) (he : zev8 m ≤ 8) (hS : S < 256) (h1 : S.testBit c = true) (h2 : ∀ o, S.testBit o = true → zRch m c v o) (h3 : ∀ o j, zt m o = true → (zof m o 1 = v ∨ zof m o 1 = zof m c 1) → S.testBit j = true → 0 < zln m o j → S.testBit o = true) : S = zchn m c v := by
  have h4 : ∀ o, zRch m c v o → S.testBit o = true := by
    exact fun o ho => zRch_ind (P := fun o => S.testBit o = true) h1 (fun j o ih a b d => h3 o j a b ih d) ho
  apply Nat.eq_of_testBit_eq
  intro i
  by_cases hi : i < 8
  · have e1 := zchn_bit (m := m) (c := c) (v := v) hi
    cases e2 : S.testBit i with
    | true => exact (e1.mpr (h2 i e2)).symm
    | false =>
      cases e3 : (zchn m c v).testBit i with
      | false => rfl
      | true =>
        rw [h4 i (e1.mp e3)] at e2
        cases e2
  · have hp : 2 ^ 8 ≤ 2 ^ i := Nat.pow_le_pow_right (by omega) (by omega)
    rw [Nat.testBit_lt_two_pow (by omega), Nat.testBit_lt_two_pow (by have := zchn_lt m c v; omega)]
theorem zbit_or (S o i : Nat) : (S ||| 2 ^ o).testBit i = (S.testBit i || decide (o = i)) := by
  rw [Nat.testBit_or, Nat.testBit_two_pow]
theorem zbits_mono {S T : Nat} (h : ∀ i, S.testBit i = true → T.testBit i = true) : ∀ (n k : Nat), zsum (fun k => (S.testBit k).toNat) k n ≤ zsum (fun k => (T.testBit k).toNat) k n := by
  intro n
  induction n with
  | zero => intro k; exact Nat.le_refl _
  | succ n ih =>
    intro k
    have h1 := ih (k + 1)
    have h2 : (S.testBit k).toNat ≤ (T.testBit k).toNat := by
      cases e : S.testBit k with
      | false => exact Nat.zero_le _
      | true => rw [h k e]; exact Nat.le_refl _
    simp only [zsum]
    omega
theorem zbits_more {S T o : Nat} (h : ∀ i, S.testBit i = true → T.testBit i = true) (h1 : S.testBit o = false) (h2 : T.testBit o = true) : ∀ (n k : Nat), k ≤ o → o < k + n → zsum (fun k => (S.testBit k).toNat) k n < zsum (fun k => (T.testBit k).toNat) k n := by
  intro n
  induction n with
  | zero => intro k a b; omega
  | succ n ih =>
    intro k a b
    by_cases hk : k = o
    · subst hk
      have := zbits_mono h n (k + 1)
      simp only [zsum, h1, h2]
      simp only [Bool.toNat_false, Bool.toNat_true]
      omega
    · have h3 := ih (k + 1) (by omega) (by omega)
      have h4 : (S.testBit k).toNat ≤ (T.testBit k).toNat := by
        cases e : S.testBit k with
        | false => exact Nat.zero_le _
        | true => rw [h k e]; exact Nat.le_refl _
      simp only [zsum]
      omega
theorem znbs_and {m : Nat → Nat} {o S : Nat} : znbs m o &&& S = 0 ↔ ∀ j, j < zev8 m → 0 < zln m o j → S.testBit j = false := by
  constructor
  · intro h j hj hl
    have h1 : (znbs m o &&& S).testBit j = false := by rw [h]; exact Nat.zero_testBit j
    rw [Nat.testBit_and] at h1
    have h2 : (znbs m o).testBit j = true := by
      unfold znbs
      rw [zset8_bit]
      simp [hj, hl]
    rw [h2, Bool.true_and] at h1
    exact h1
  · intro h
    apply Nat.eq_of_testBit_eq
    intro j
    rw [Nat.zero_testBit, Nat.testBit_and]
    cases h2 : (znbs m o).testBit j with
    | false => rfl
    | true =>
      unfold znbs at h2
      rw [zset8_bit] at h2
      simp at h2
      rw [h j h2.1 h2.2]
      rfl
theorem zS_sbit {S o : Nat} (hS : S < 256) (ho : o < 8) : zci .ne (zand (zshr (nI S) (nI o)) (nI 1)) (nI 0) = S.testBit o := by
  rw [zS_shr S hS o ho, zS_and, zS_bit, zS_b0n]
theorem zS_sbit1 {S o : Nat} (hS : S < 256) (ho : o < 8) : zci .ne (zand (zshr (nI S) (nI o)) (nI 1)) (nI 1) = !S.testBit o := by
  rw [zS_shr S hS o ho, zS_and, zS_bit, zS_b1n]
/-- one pass -/
theorem zm_ch1 {h : zHp} {m : Nat → Nat} (hR : zR h m) (hI : zI m) {c v : Nat} (hc : c < zev8 m) (hv : v < 4) : ∀ (n o S g : Nat) (d6 : Option zV), o + n = zev8 m → S < 256 → g ≤ 1 → S.testBit c = true → (∀ i, S.testBit i = true → zRch m c v i) → ∃ (S' g' : Nat) (d5' d6' : Option zV), zr_38 18 [some (.inr 76), some (.inl (nI c)), some (.inl (nI v)), some (.inl (nI S)), some (.inl (nI g)), some (.inl (nI o)), d6] [] h = zr_38 7 [some (.inr 76), some (.inl (nI c)), some (.inl (nI v)), some (.inl (nI S')), some (.inl (nI g')), d5', d6'] [] h ∧ S' < 256 ∧ g' ≤ 1 ∧ (∀ i, S.testBit i = true → S'.testBit i = true) ∧ (∀ i, S'.testBit i = true → zRch m c v i) ∧ (g' = 0 → g = 0 ∧ S' = S ∧ ∀ k, o ≤ k → k < zev8 m → zt m k = true → (zof m k 1 = v ∨ zof m k 1 = zof m c 1) → S.testBit k = false → znbs m k &&& S = 0) ∧ (g' = 1 → g = 1 ∨ zbits S < zbits S') := by
  have hB := hI.1
  have he := zB_ev hB
  have hcc := zB_1 hB (c := c) (by omega)
  intro n
  induction n with
  | zero =>
    intro o S g d6 ho hS hg h1 h2
    refine ⟨S, g, some (.inl (nI o)), d6, ?_, hS, hg, fun _ a => a, h2, fun a => ⟨a, rfl, fun k a b => by omega⟩, fun a => Or.inl a⟩
    rw [zb_38_18, zg149, zR_149 hR, zS_cge (by omega) (by omega), if_pos rfl, decide_eq_true (by omega), if_pos rfl]
  | succ n ih =>
    intro o S g d6 ho hS hg h1 h2
    have hoc := zB_1 hB (c := o) (by omega)
    have e0 : zci .eq (nI 0) (nI 0) = true := by decide
    have e1 : zci .eq (nI 1) (nI 0) = false := by decide
    -- nothing at o
    have skip : ∀ d6', (zt m o = true → (zof m o 1 = v ∨ zof m o 1 = zof m c 1) → S.testBit o = false → znbs m o &&& S = 0) → zr_38 18 [some (.inr 76), some (.inl (nI c)), some (.inl (nI v)), some (.inl (nI S)), some (.inl (nI g)), some (.inl (nI o)), d6] [] h = zr_38 18 [some (.inr 76), some (.inl (nI c)), some (.inl (nI v)), some (.inl (nI S)), some (.inl (nI g)), some (.inl (nI (o + 1))), d6'] [] h → ∃ (S' g' : Nat) (d5' d6' : Option zV), zr_38 18 [some (.inr 76), some (.inl (nI c)), some (.inl (nI v)), some (.inl (nI S)), some (.inl (nI g)), some (.inl (nI o)), d6] [] h = zr_38 7 [some (.inr 76), some (.inl (nI c)), some (.inl (nI v)), some (.inl (nI S')), some (.inl (nI g')), d5', d6'] [] h ∧ S' < 256 ∧ g' ≤ 1 ∧ (∀ i, S.testBit i = true → S'.testBit i = true) ∧ (∀ i, S'.testBit i = true → zRch m c v i) ∧ (g' = 0 → g = 0 ∧ S' = S ∧ ∀ k, o ≤ k → k < zev8 m → zt m k = true → (zof m k 1 = v ∨ zof m k 1 = zof m c 1) → S.testBit k = false → znbs m k &&& S = 0) ∧ (g' = 1 → g = 1 ∨ zbits S < zbits S') := by
      intro d6' hno heq
      obtain ⟨S', g', d5', d6'', q1, q2, q3, q4, q5, q6, q7⟩ := ih (o + 1) S g d6' (by omega) hS hg h1 h2
      refine ⟨S', g', d5', d6'', heq.trans q1, q2, q3, q4, q5, fun a => ?_, q7⟩
      obtain ⟨r1, r2, r3⟩ := q6 a
      refine ⟨r1, r2, fun k hk => ?_⟩
      by_cases hko : k = o
      · subst hko
        exact fun _ => hno
      · exact r3 k (by omega)
    -- may
    have may : zt m o = true → (zof m o 1 = v ∨ zof m o 1 = zof m c 1) → zr_38 18 [some (.inr 76), some (.inl (nI c)), some (.inl (nI v)), some (.inl (nI S)), some (.inl (nI g)), some (.inl (nI o)), d6] [] h = (if zci .ne (zand (zshr (nI S) (nI o)) (nI 1)) (nI 0) = true then (zr_38 18 [some (.inr 76), some (.inl (nI c)), some (.inl (nI v)), some (.inl (nI S)), some (.inl (nI g)), some (.inl (nI (o + 1))), some (.inl (nI 1))] [] h) else ((zM_29 [.inr 76, .inl (nI o)] h).bind (fun r => zr_38 94 [some (.inr 76), some (.inl (nI c)), some (.inl (nI v)), some (.inl (nI S)), some (.inl (nI g)), some (.inl (nI o)), some (.inl (nI 1))] (zpush r.1 []) r.2))) → ∃ (S' g' : Nat) (d5' d6' : Option zV), zr_38 18 [some (.inr 76), some (.inl (nI c)), some (.inl (nI v)), some (.inl (nI S)), some (.inl (nI g)), some (.inl (nI o)), d6] [] h = zr_38 7 [some (.inr 76), some (.inl (nI c)), some (.inl (nI v)), some (.inl (nI S')), some (.inl (nI g')), d5', d6'] [] h ∧ S' < 256 ∧ g' ≤ 1 ∧ (∀ i, S.testBit i = true → S'.testBit i = true) ∧ (∀ i, S'.testBit i = true → zRch m c v i) ∧ (g' = 0 → g = 0 ∧ S' = S ∧ ∀ k, o ≤ k → k < zev8 m → zt m k = true → (zof m k 1 = v ∨ zof m k 1 = zof m c 1) → S.testBit k = false → znbs m k &&& S = 0) ∧ (g' = 1 → g = 1 ∨ zbits S < zbits S') := by
      intro ht hcol heq
      rw [zS_sbit hS (by omega)] at heq
      cases h5 : S.testBit o with
      | true =>
        rw [h5, if_pos rfl] at heq
        exact skip _ (fun _ _ a => by rw [a] at h5; cases h5) heq
      | false =>
        have hnl : znbs m o < 256 := zset8_lt _ he
        have hal : znbs m o &&& S < 256 := Nat.lt_of_le_of_lt Nat.and_le_left hnl
        rw [h5, if_neg (by decide), zm_nbs hR hB (by omega)] at heq
        simp only [Option.bind_some, zpush] at heq
        rw [zb_38_94, zS_and, zS_ceq (by omega) (by omega), zS_add, zS_shl1 _ (by omega), zS_or] at heq
        by_cases h6 : znbs m o &&& S = 0
        · rw [decide_eq_true h6, if_pos rfl] at heq
          exact skip _ (fun _ _ _ => h6) heq
        · rw [decide_eq_false h6, if_neg (by decide)] at heq
          have hsub : ∀ i, S.testBit i = true → (S ||| 2 ^ o).testBit i = true := fun i hi => by rw [zbit_or, hi]; rfl
          have hone : (S ||| 2 ^ o).testBit o = true := by rw [zbit_or, decide_eq_true rfl, Bool.or_true]
          have hrch : zRch m c v o := by
            have : ¬ ∀ j, j < zev8 m → 0 < zln m o j → S.testBit j = false := fun a => h6 (znbs_and.mpr a)
            simp only [Classical.not_forall] at this
            obtain ⟨j, hj, hl, hb⟩ := this
            exact zRch_step (h2 j (by simpa using hb)) ht hcol hl
          obtain ⟨S', g', d5', d6'', q1, q2, q3, q4, q5, q6, q7⟩ := ih (o + 1) (S ||| 2 ^ o) 1 (some (.inl (nI 1))) (by omega) (by
            have h8 : 2 ^ o < 2 ^ 8 := Nat.pow_lt_pow_right (by omega) (by omega)
            have := Nat.or_lt_two_pow (n := 8) (x := S) (y := 2 ^ o) (by omega) h8
            omega) (by omega) (hsub c h1) (fun i hi => by
              rw [zbit_or] at hi
              simp only [Bool.or_eq_true, decide_eq_true_eq] at hi
              rcases hi with hi | rfl
              · exact h2 i hi
              · exact hrch)
          refine ⟨S', g', d5', d6'', heq.trans q1, q2, q3, fun i hi => q4 i (hsub i hi), q5, fun a => absurd (q6 a).1 (by omega), fun a => Or.inr ?_⟩
          exact zbits_more (fun i hi => q4 i (hsub i hi)) h5 (q4 o hone) 8 0 (by omega) (by omega)
    have start : zr_38 18 [some (.inr 76), some (.inl (nI c)), some (.inl (nI v)), some (.inl (nI S)), some (.inl (nI g)), some (.inl (nI o)), d6] [] h = zr_38 37 [some (.inr 76), some (.inl (nI c)), some (.inl (nI v)), some (.inl (nI S)), some (.inl (nI g)), some (.inl (nI o)), d6] [.inl (nI (zt m o).toNat)] h := by
      rw [zb_38_18, zg149, zR_149 hR, zS_cge (by omega) (by omega), if_pos rfl, decide_eq_false (by omega), if_neg (by decide), zm_there_n hR hB (by omega)]
      simp only [Option.bind_some, zpush]
    rw [zb_38_37, zS_b0, e0, zS_add] at start
    cases h3 : zt m o with
    | false =>
      rw [h3, if_pos (by decide), if_pos rfl] at start
      exact skip _ (fun a => by rw [a] at h3; cases h3) start
    | true =>
      rw [h3, if_neg (by decide), zm_of hR (by omega)] at start
      simp only [Option.bind_some, zpush] at start
      rw [zb_38_47, zS_ceq (by omega) (by omega), e1, zS_add] at start
      by_cases h4 : zof m o 1 = v
      · rw [decide_eq_true h4, if_pos rfl, if_neg (by decide)] at start
        exact may h3 (Or.inl h4) start
      · rw [decide_eq_false h4, if_neg (by decide), zm_of hR (by omega)] at start
        simp only [Option.bind_some, zpush] at start
        rw [zb_38_58, zm_of hR (by omega)] at start
        simp only [Option.bind_some, zpush] at start
        rw [zb_38_64, zS_cne (by omega) (by omega), e0, e1, zS_add] at start
        by_cases h5 : zof m o 1 = zof m c 1
        · rw [decide_eq_true h5, if_neg (by decide), if_neg (by decide)] at start
          exact may h3 (Or.inr h5) start
        · rw [decide_eq_false h5, if_pos (by decide), if_pos rfl] at start
          exact skip _ (fun _ a => by omega) start
theorem zm_ch2 {h : zHp} {m : Nat → Nat} (hR : zR h m) (hI : zI m) {c v : Nat} (hc : c < zev8 m) (hv : v < 4) : ∀ (n S : Nat) (d5 d6 : Option zV), 8 < n + zbits S → S < 256 → S.testBit c = true → (∀ i, S.testBit i = true → zRch m c v i) → zr_38 7 [some (.inr 76), some (.inl (nI c)), some (.inl (nI v)), some (.inl (nI S)), some (.inl (nI 1)), d5, d6] [] h = some (some (nI (zchn m c v)), h) := by
  have hB := hI.1
  have he := zB_ev hB
  intro n
  induction n with
  | zero =>
    intro S d5 d6 hn
    have := zbits_le S
    omega
  | succ n ih =>
    intro S d5 d6 hn hS h1 h2
    have e1 : zci .eq (nI 1) (nI 0) = false := by decide
    obtain ⟨S', g', d5', d6', q1, q2, q3, q4, q5, q6, q7⟩ := zm_ch1 hR hI hc hv (zev8 m) 0 S 0 d6 (by omega) hS (by omega) h1 h2
    rw [zb_38_7, e1, if_neg (by decide), q1]
    by_cases hg : g' = 0
    · subst hg
      obtain ⟨r1, r2, r3⟩ := q6 rfl
      have e0 : zci .eq (nI 0) (nI 0) = true := by decide
      rw [zb_38_7, e0, if_pos rfl, r2]
      rw [zchn_is hc he hS h1 h2 (fun o j a b d f => ?_)]
      have ho := zt_lt a
      cases hb : S.testBit o with
      | true => rfl
      | false =>
        have hj : j < zev8 m := zRch_lt hc (h2 j d)
        have := znbs_and.mp (r3 o (by omega) ho a b hb) j hj f
        rw [d] at this
        cases this
    · have hg : g' = 1 := by omega
      subst hg
      rcases q7 rfl with a | a
      · omega
      · exact ih S' d5' d6' (by omega) q2 (q4 c h1) q5
theorem zm_chn {h : zHp} {m : Nat → Nat} (hR : zR h m) (hI : zI m) {c v : Nat} (hc : c < zev8 m) (hv : v < 4) : zM_38 [.inr 76, .inl (nI c), .inl (nI v)] h = some (some (nI (zchn m c v)), h) := by
  have he := zB_ev hI.1
  rw [ze_38, zS_shl1 _ (by omega)]
  have hb : ∀ i, (2 ^ c).testBit i = true → i = c := fun i hi => by
    rw [Nat.testBit_two_pow] at hi
    exact (of_decide_eq_true hi).symm
  have h8 : 2 ^ c < 2 ^ 8 := Nat.pow_lt_pow_right (by omega) (by omega)
  exact zm_ch2 hR hI hc hv 9 (2 ^ c) _ _ (by omega) (by omega) (by rw [Nat.testBit_two_pow]; exact decide_eq_true rfl) (fun i hi => by rw [hb i hi]; exact zRch_base)
