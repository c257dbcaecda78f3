/-! chain, exchange of the class. -/
theorem zS_lt256 {x y : Nat} (hx : x < 256) (hy : y < 256) : x ||| y < 256 := Nat.or_lt_two_pow (n := 8) hx hy
def zec (m : Nat → Nat) (a b : Nat) : Nat := zset8 (fun d => zt m d && (decide (zof m d 1 = a) || decide (zof m d 1 = b))) 0 8
theorem zec_lt (m : Nat → Nat) (a b : Nat) : zec m a b < 256 := zset8_lt _ (by omega)
theorem zn_wec1 {h : zHp} {m : Nat → Nat} (hS : zSr h 1 m) (hI : zI m) {a b : Nat} (ha : a < 4) (hb : b < 4) : ∀ (n k acc : Nat), k + n = 8 → zr_116 5 [some (.inr 1), some (.inl (nI a)), some (.inl (nI b)), some (.inl (nI acc)), some (.inl (nI k))] [] h = some (some (nI (acc ||| zset8 (fun d => zt m d && (decide (zof m d 1 = a) || decide (zof m d 1 = b))) k n)), h) := by
  intro n
  induction n with
  | zero =>
    intro k acc hk
    rw [zb_116_5, zS_cge (by omega) (by omega), decide_eq_true (by omega), if_pos rfl]
    simp [zset8]
  | succ n ih =>
    intro k acc hk
    have ex : zth m (nI k) = zt m k := zth_nI (by omega)
    rw [zb_116_5, zS_cge (by omega) (by omega), decide_eq_false (by omega), if_neg (by decide), zn_there hS hI.1, ex]
    simp only [Option.bind_some, zpush]
    rw [zb_116_18, zS_b0, zS_add]
    cases h1 : zt m k with
    | false =>
      rw [if_pos (by decide), ih (k + 1) _ (by omega)]
      simp [zset8, h1]
    | true =>
      have c1 : h 2 k = nI (zof m k 1) := (hS.2.1 k (by omega) h1).1
      have b1 := zB_1 hI.1 (show k < 8 by omega)
      rw [if_neg (by decide), zS_ib _ (by omega), decide_eq_true (show k < 8 by omega), if_pos rfl, if_pos rfl, zS_cl (by omega), c1, zS_ceq (by omega) (by omega), zS_cne (by omega) (by omega), zS_shl1 _ (by omega), zS_or]
      by_cases h2 : zof m k 1 = a
      · rw [decide_eq_true h2, if_pos rfl, ih (k + 1) _ (by omega)]
        simp [zset8, h1, h2, Nat.or_assoc]
      · rw [decide_eq_false h2, if_neg (by decide)]
        by_cases h3 : zof m k 1 = b
        · rw [decide_eq_true h3, if_neg (by decide), ih (k + 1) _ (by omega)]
          simp [zset8, h1, h3, Nat.or_assoc]
        · rw [decide_eq_false h3, if_pos (by decide), ih (k + 1) _ (by omega)]
          simp [zset8, h1, h2, h3]
theorem zn_wec {h : zHp} {m : Nat → Nat} (hS : zSr h 1 m) (hI : zI m) {a b : Nat} (ha : a < 4) (hb : b < 4) : zM_116 [.inr 1, .inl (nI a), .inl (nI b)] h = some (some (nI (zec m a b)), h) := by
  rw [ze_116, zn_wec1 hS hI ha hb 8 0 0 (by omega), Nat.zero_or]
  rfl
def zexl (m : Nat → Nat) (E S : Nat) : Nat → Nat → Nat → Nat
  | _, 0, F => F
  | k, n + 1, F => zexl m E S (k + 1) n (if S.testBit k = true then F ||| (znbs m k &&& E) else F)
def zit (m : Nat → Nat) (E : Nat) : Nat → Nat → Nat
  | 0, S => S
  | n + 1, S => zit m E n (zexl m E S 0 8 S)
theorem zexl_lt {m : Nat → Nat} {E S : Nat} (hE : E < 256) : ∀ (n k F : Nat), F < 256 → zexl m E S k n F < 256 := by
  intro n
  induction n with
  | zero => intro k F hF; exact hF
  | succ n ih =>
    intro k F hF
    unfold zexl
    refine ih _ _ ?_
    split
    · exact zS_lt256 hF (Nat.lt_of_le_of_lt Nat.and_le_right hE)
    · exact hF
theorem zexl_bit {m : Nat → Nat} {E S i : Nat} : ∀ (n k F : Nat), (zexl m E S k n F).testBit i = true ↔ F.testBit i = true ∨ ∃ j, k ≤ j ∧ j < k + n ∧ S.testBit j = true ∧ (znbs m j).testBit i = true ∧ E.testBit i = true := by
  intro n
  induction n with
  | zero =>
    intro k F
    constructor
    · intro h
      exact Or.inl h
    · rintro (h | ⟨j, a, b, _⟩)
      · exact h
      · omega
  | succ n ih =>
    intro k F
    unfold zexl
    rw [ih]
    constructor
    · rintro (h | ⟨j, a, b, d⟩)
      · split at h
        · rename_i hs
          rw [Nat.testBit_or, Bool.or_eq_true, Nat.testBit_and, Bool.and_eq_true] at h
          rcases h with h | h
          · exact Or.inl h
          · exact Or.inr ⟨k, by omega, by omega, hs, h.1, h.2⟩
        · exact Or.inl h
      · exact Or.inr ⟨j, by omega, by omega, d⟩
    · rintro (h | ⟨j, a, b, d1, d2, d3⟩)
      · left
        split
        · rw [Nat.testBit_or, h]
          rfl
        · exact h
      · by_cases hj : j = k
        · subst hj
          left
          rw [if_pos d1, Nat.testBit_or, Nat.testBit_and, d2, d3]
          simp
        · exact Or.inr ⟨j, by omega, by omega, d1, d2, d3⟩
theorem zn_chi {h : zHp} {m : Nat → Nat} (hS : zSr h 1 m) (hI : zI m) {E S x : Nat} (hE : E < 256) (hSl : S < 256) (d1 d2 : Option zV) : ∀ (n k F : Nat), k + n = 8 → F < 256 → zr_117 34 [some (.inr 1), d1, d2, some (.inl (nI E)), some (.inl (nI S)), some (.inl (nI x)), some (.inl (nI F)), some (.inl (nI k))] [] h = zr_117 20 [some (.inr 1), d1, d2, some (.inl (nI E)), some (.inl (nI (zexl m E S k n F))), some (.inl (nI (x + 1))), some (.inl (nI (zexl m E S k n F))), some (.inl (nI 8))] [] h := by
  intro n
  induction n with
  | zero =>
    intro k F hk hF
    have hk : k = 8 := by omega
    subst hk
    rw [zb_117_34, zS_cge (by omega) (by omega), decide_eq_true (by omega), if_pos rfl, zS_add]
    rfl
  | succ n ih =>
    intro k F hk hF
    rw [zb_117_34, zS_cge (by omega) (by omega), decide_eq_false (by omega), if_neg (by decide), zn_has h hSl (by omega)]
    simp only [Option.bind_some, zpush]
    rw [zb_117_48, zS_b0, zS_add]
    cases h1 : S.testBit k with
    | false =>
      rw [if_pos (by decide), ih (k + 1) F (by omega) hF]
      have : zexl m E S k (n + 1) F = zexl m E S (k + 1) n F := by
        show zexl m E S (k + 1) n (if S.testBit k = true then F ||| (znbs m k &&& E) else F) = _
        rw [h1, if_neg (by decide)]
      rw [this]
    | true =>
      rw [if_neg (by decide), zn_nbs hS hI (by omega)]
      simp only [Option.bind_some, zpush]
      rw [zb_117_62, zS_and, zS_or, zS_add, ih (k + 1) _ (by omega) (zS_lt256 hF (Nat.lt_of_le_of_lt Nat.and_le_right hE))]
      have : zexl m E S k (n + 1) F = zexl m E S (k + 1) n (F ||| (znbs m k &&& E)) := by
        show zexl m E S (k + 1) n (if S.testBit k = true then F ||| (znbs m k &&& E) else F) = _
        rw [h1, if_pos rfl]
      rw [this]
theorem zn_cho {h : zHp} {m : Nat → Nat} (hS : zSr h 1 m) (hI : zI m) {E : Nat} (hE : E < 256) (d1 d2 : Option zV) : ∀ (n x S : Nat) (d6 d7 : Option zV), x + n = 8 → S < 256 → zr_117 20 [some (.inr 1), d1, d2, some (.inl (nI E)), some (.inl (nI S)), some (.inl (nI x)), d6, d7] [] h = some (some (nI (zit m E n S)), h) := by
  intro n
  induction n with
  | zero =>
    intro x S d6 d7 hx hSl
    rw [zb_117_20, zS_cge (by omega) (by omega), decide_eq_true (by omega), if_pos rfl]
    rfl
  | succ n ih =>
    intro x S d6 d7 hx hSl
    rw [zb_117_20, zS_cge (by omega) (by omega), decide_eq_false (by omega), if_neg (by decide), zn_chi hS hI hE hSl d1 d2 8 0 S (by omega) hSl, ih (x + 1) _ _ _ (by omega) (zexl_lt hE 8 0 S hSl)]
    rfl
theorem zbits_8 : ∀ S, S < 256 → zbits S = 8 → S = 255 := by decide +kernel
theorem zbits_1 : ∀ c, c < 8 → zbits (2 ^ c) = 1 := by decide +kernel
theorem zit_ok {m : Nat → Nat} {E : Nat} (hE : E < 256) (P : Nat → Prop) (hP : ∀ S i, (∀ i, S.testBit i = true → P i) → (zexl m E S 0 8 S).testBit i = true → P i) : ∀ (n S : Nat), S < 256 → (∀ i, S.testBit i = true → P i) → zit m E n S < 256 ∧ (∀ i, S.testBit i = true → (zit m E n S).testBit i = true) ∧ (∀ i, (zit m E n S).testBit i = true → P i) ∧ (zbits S + n ≤ zbits (zit m E n S) ∨ ∀ i, (zexl m E (zit m E n S) 0 8 (zit m E n S)).testBit i = true → (zit m E n S).testBit i = true) := by
  intro n
  induction n with
  | zero =>
    intro S hS h1
    exact ⟨hS, fun i h => h, h1, Or.inl (Nat.le_refl _)⟩
  | succ n ih =>
    intro S hS h1
    have hlt := zexl_lt (m := m) (S := S) hE 8 0 S hS
    have hup : ∀ i, S.testBit i = true → (zexl m E S 0 8 S).testBit i = true := fun i h => (zexl_bit 8 0 S).mpr (Or.inl h)
    obtain ⟨q1, q2, q3, q4⟩ := ih (zexl m E S 0 8 S) hlt (fun i => hP S i h1)
    refine ⟨q1, fun i h => q2 i (hup i h), q3, ?_⟩
    by_cases hc : ∀ i, (zexl m E S 0 8 S).testBit i = true → S.testBit i = true
    · have e1 : zexl m E S 0 8 S = S := by
        apply Nat.eq_of_testBit_eq
        intro i
        rw [Bool.eq_iff_iff]
        exact ⟨hc i, hup i⟩
      have e2 : ∀ n, zit m E n S = S := by
        intro n
        induction n with
        | zero => rfl
        | succ n ih2 =>
          show zit m E n (zexl m E S 0 8 S) = S
          rw [e1]
          exact ih2
      right
      rw [e2, e1]
      exact fun i h => h
    · have hne : ∃ i, (zexl m E S 0 8 S).testBit i = true ∧ S.testBit i = false := by
        apply Classical.byContradiction
        intro hn
        apply hc
        intro i hi
        cases hb : S.testBit i with
        | true => rfl
        | false => exact absurd ⟨i, hi, hb⟩ hn
      obtain ⟨o, o1, o2⟩ := hne
      have ho : o < 8 := by
        rcases Nat.lt_or_ge o 8 with a | a
        · exact a
        · have : (zexl m E S 0 8 S).testBit o = false := Nat.testBit_lt_two_pow (Nat.lt_of_lt_of_le hlt (Nat.pow_le_pow_right (n := 2) (by omega) (show 8 ≤ o by omega)))
          rw [this] at o1
          cases o1
      have hlt2 : zbits S < zbits (zexl m E S 0 8 S) := zbits_more hup o2 o1 8 0 (by omega) (by omega)
      rcases q4 with a | a
      · left
        show zbits S + (n + 1) ≤ zbits (zit m E n (zexl m E S 0 8 S))
        omega
      · exact Or.inr a
theorem zRch_t {m : Nat → Nat} {c v o : Nat} (ht : zt m c = true) (h : zRch m c v o) : zt m o = true := zRch_ind (P := fun o => zt m o = true) ht (fun _ _ _ a _ _ => a) h
theorem zn_chn {h : zHp} {m : Nat → Nat} (hS : zSr h 1 m) (hI : zI m) {c v : Nat} (hc : c < 8) (ht : zt m c = true) (hv : v < 4) : zM_117 [.inr 1, .inl (nI c), .inl (nI v)] h = some (some (nI (zchn m c v)), h) := by
  have he := zB_ev hI.1
  have b1 := zB_1 hI.1 hc
  have c1 : h 2 c = nI (zof m c 1) := (hS.2.1 c hc ht).1
  have hE := zec_lt m (zof m c 1) v
  have h2c : 2 ^ c < 256 := Nat.pow_lt_pow_right (a := 2) (by omega) (show c < 8 by omega)
  rw [ze_117, zS_ib _ (by omega), decide_eq_true hc, if_pos rfl, zS_cl (by omega), c1, zn_wec hS hI (by omega) hv]
  simp only [Option.bind_some, zpush]
  rw [zb_117_11, zS_shl1 _ (by omega), zn_cho hS hI hE _ _ 7 1 (2 ^ c) _ _ (by omega) h2c]
  have hEb : ∀ i, (zec m (zof m c 1) v).testBit i = true ↔ i < 8 ∧ zt m i = true ∧ (zof m i 1 = zof m c 1 ∨ zof m i 1 = v) := fun i => by
    unfold zec
    rw [zset8_bit]
    simp
  obtain ⟨q1, q2, q3, q4⟩ := zit_ok (m := m) hE (fun i => zRch m c v i) (fun S i h1 h2 => by
    rcases (zexl_bit 8 0 S).mp h2 with a | ⟨j, j1, j2, j3, j4, j5⟩
    · exact h1 i a
    · obtain ⟨e1, e2, e3⟩ := (hEb i).mp j5
      rw [znbs_bit hI (show j < 8 by omega) e1] at j4
      have j4 := of_decide_eq_true j4
      refine zRch_step (h1 j j3) e2 (by omega) ?_
      rw [hI.2.2.2.1 i j e1 (by omega)]
      exact j4) 7 (2 ^ c) h2c (fun i hi => by
      rw [Nat.testBit_two_pow] at hi
      have hi := of_decide_eq_true hi
      subst hi
      exact zRch_base)
  have e1 : zit m (zec m (zof m c 1) v) 7 (2 ^ c) = zchn m c v := by
    refine zchn_is (zt_lt ht) he q1 (q2 c (by rw [Nat.testBit_two_pow]; exact decide_eq_true rfl)) q3 (fun o j h1 h2 h3 h4 => ?_)
    have ho : o < 8 := by have := zt_lt h1; omega
    rcases q4 with a | a
    · rw [zbits_1 c hc] at a
      have := zbits_le (zit m (zec m (zof m c 1) v) 7 (2 ^ c))
      rw [zbits_8 _ q1 (by omega)]
      have h8 : ∀ i, i < 8 → Nat.testBit 255 i = true := by decide
      exact h8 o ho
    · have hj : j < 8 := by
        have := zt_lt (zRch_t ht (q3 j h3))
        omega
      refine a o ((zexl_bit 8 0 _).mpr (Or.inr ⟨j, by omega, by omega, h3, ?_, (hEb o).mpr ⟨ho, h1, by omega⟩⟩))
      rw [znbs_bit hI hj ho, hI.2.2.2.1 j o hj ho]
      exact decide_eq_true h4
  rw [e1]
theorem zn_chain {h : zHp} {m : Nat → Nat} (hS : zSr h 1 m) (hI : zI m) (c v : Int32) : zM_166 [.inr 0, .inl c, .inl v] h = some (some (zqChain m c v), h) := by
  have hB := hI.1
  have he := zB_ev hB
  have e1 := ze_166 c v h
  rw [zn_there hS hB] at e1
  simp only [Option.bind_some, zpush] at e1
  rw [zb_166_8, zS_b0n] at e1
  rw [e1]
  unfold zqChain zbar
  cases h1 : zth m c with
  | false =>
    rw [if_neg (by decide)]
    rfl
  | true =>
  rw [if_pos rfl, zn_col]
  simp only [Option.bind_some, zpush]
  rw [zb_166_17, zS_b0]
  cases h2 : zcol v with
  | false =>
    rw [if_pos (by decide)]
    rfl
  | true =>
  obtain ⟨n, hn, hn1, rfl⟩ := zth_of h1
  obtain ⟨k, hk, rfl⟩ := zcol_of h2
  have tn := zt_of hn hn1
  have hn8 : n < 8 := by omega
  have b1 := zB_1 hB hn8
  rw [if_neg (by decide), zS_ib _ (by omega), decide_eq_true hn8, if_pos rfl, zS_cl (show n < 2147483648 by omega), zS_cl (show k < 2147483648 by omega), show h 2 n = nI (zof m n 1) from (hS.2.1 n hn8 tn).1, zS_cne (by omega) (by omega)]
  by_cases h3 : k = zof m n 1
  · rw [decide_eq_true h3, if_neg (by decide), decide_eq_true (show nI (zof m n 1) = nI k by rw [h3])]
    rfl
  · rw [decide_eq_false h3, if_pos (by decide), decide_eq_false (znI_ne (by omega) (by omega) (fun e => h3 e.symm)), zn_chn hS hI hn8 tn hk]
    simp only [Option.bind_some, zpush]
    rw [zb_166_45]
    rfl
