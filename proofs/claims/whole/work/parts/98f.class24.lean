/-! readBorders of the class. -/
theorem zpb_up {tx : List Nat} {k : Nat} : (∀ j, zpb tx k = .inl j → j ≤ k + 4) ∧ (∀ j a b n, zpb tx k = .inr (j, a, b, n) → j ≤ k + 6 ∧ k + 2 < tx.length) := by
  unfold zpb
  cases h1 : zbt tx k 48 57 with
  | false =>
    rw [if_pos rfl]
    exact ⟨fun j e => (by cases e; omega), fun j a b n e => (by cases e)⟩
  | true =>
  rw [if_neg (by decide)]
  cases h2 : zbt tx (k + 1) 45 45 with
  | false =>
    rw [if_pos rfl]
    exact ⟨fun j e => (by cases e; omega), fun j a b n e => (by cases e)⟩
  | true =>
  rw [if_neg (by decide)]
  cases h3 : zbt tx (k + 2) 48 57 with
  | false =>
    rw [if_pos rfl]
    exact ⟨fun j e => (by cases e; omega), fun j a b n e => (by cases e)⟩
  | true =>
  have g := (zbt_lt h3).1
  rw [if_neg (by decide)]
  cases h4 : zbt tx (k + 3) 58 58 with
  | false =>
    rw [if_pos rfl]
    exact ⟨fun j e => (by cases e), fun j a b n e => by
      simp only [Sum.inr.injEq, Prod.mk.injEq] at e
      omega⟩
  | true =>
  rw [if_neg (by decide)]
  cases h5 : zbt tx (k + 4) 49 57 with
  | false =>
    rw [if_pos rfl]
    exact ⟨fun j e => (by cases e; omega), fun j a b n e => (by cases e)⟩
  | true =>
  rw [if_neg (by decide)]
  cases h6 : zbt tx (k + 5) 48 57 with
  | false =>
    rw [if_pos rfl]
    exact ⟨fun j e => (by cases e), fun j a b n e => by
      simp only [Sum.inr.injEq, Prod.mk.injEq] at e
      omega⟩
  | true =>
    rw [if_neg (by decide)]
    exact ⟨fun j e => (by cases e), fun j a b n e => by
      simp only [Sum.inr.injEq, Prod.mk.injEq] at e
      omega⟩
theorem zS_eqm1 : ∀ j, j < 100 → zci .eq (nI j) (-1) = false := by decide +kernel
def zpr (r : Nat ⊕ List (Nat × Nat × Nat)) : Int32 := match r with
  | .inl j => nI j
  | .inr _ => -1
def zEt (h : zHp) (i : Nat) (l : List (Nat × Nat × Nat)) : Prop := ∀ t (x : Nat × Nat × Nat), l[t]? = some x → h 59 (i + t) = nI x.1 ∧ h 60 (i + t) = nI x.2.1 ∧ h 61 (i + t) = nI x.2.2
theorem zpl_a {tx : List Nat} {f k j : Nat} (h : zpb tx k = .inl j) : zpl tx (f + 1) k = .inl j := by
  unfold zpl
  rw [h]
theorem zpl_b1 {tx : List Nat} {f k j a b n : Nat} (h : zpb tx k = .inr (j, a, b, n)) (hj : tx.length ≤ j) : zpl tx (f + 1) k = .inr [(a, b, n)] := by
  unfold zpl
  rw [h]
  exact if_pos hj
theorem zpl_b2 {tx : List Nat} {f k j a b n : Nat} (h : zpb tx k = .inr (j, a, b, n)) (hj : ¬ tx.length ≤ j) (hc : zbt tx j 44 44 = false) : zpl tx (f + 1) k = .inl j := by
  unfold zpl
  rw [h]
  dsimp only
  rw [if_neg hj, if_pos hc]
theorem zpl_b3 {tx : List Nat} {f k j a b n e : Nat} (h : zpb tx k = .inr (j, a, b, n)) (hj : ¬ tx.length ≤ j) (hc : zbt tx j 44 44 = true) (hl : zpl tx f (j + 1) = .inl e) : zpl tx (f + 1) k = .inl e := by
  unfold zpl
  rw [h]
  dsimp only
  rw [if_neg hj, if_neg (by rw [hc]; decide), hl]
theorem zpl_b4 {tx : List Nat} {f k j a b n : Nat} {l : List (Nat × Nat × Nat)} (h : zpb tx k = .inr (j, a, b, n)) (hj : ¬ tx.length ≤ j) (hc : zbt tx j 44 44 = true) (hl : zpl tx f (j + 1) = .inr l) : zpl tx (f + 1) k = .inr ((a, b, n) :: l) := by
  unfold zpl
  rw [h]
  dsimp only
  rw [if_neg hj, if_neg (by rw [hc]; decide), hl]
theorem zpl_i {tx : List Nat} {f k j a b n : Nat} {l : List (Nat × Nat × Nat)} (h : zpb tx k = .inr (j, a, b, n)) (hl : zpl tx (f + 1) k = .inr l) : (tx.length ≤ j ∧ l = [(a, b, n)]) ∨ (j < tx.length ∧ ∃ l2, zpl tx f (j + 1) = .inr l2 ∧ l = (a, b, n) :: l2) := by
  by_cases hj : tx.length ≤ j
  · rw [zpl_b1 h hj] at hl
    exact Or.inl ⟨hj, (Sum.inr.inj hl).symm⟩
  · right
    refine ⟨by omega, ?_⟩
    cases hc : zbt tx j 44 44 with
    | false =>
      rw [zpl_b2 h hj hc] at hl
      cases hl
    | true =>
      cases hq : zpl tx f (j + 1) with
      | inl e =>
        rw [zpl_b3 h hj hc hq] at hl
        cases hl
      | inr l2 =>
        rw [zpl_b4 h hj hc hq] at hl
        exact ⟨l2, rfl, (Sum.inr.inj hl).symm⟩
theorem zXt_kx {h h' : zHp} {tx : List Nat} {i : Nat} (hX : zXt h tx) (hK : zKx i h h') : zXt h' tx := zXt_fr hX (hK _ _ (by omega) (by omega)) (fun j => hK _ _ (by omega) (by omega))
theorem zn_rdl {tx : List Nat} : ∀ (f k i : Nat) (h : zHp) (d3 : Option zV), tx.length < k + f → 4 * i ≤ k → k ≤ 60 → zXt h tx → ∃ h', zr_95 9 [some (.inr 57), some (.inl (nI k)), some (.inl (nI i)), d3] [] h = some (some (zpr (zpl tx f k)), h') ∧ zKx i h h' ∧ ∀ l, zpl tx f k = .inr l → h' 57 2 = nI (i + l.length) ∧ zEt h' i l := by
  intro f
  induction f with
  | zero =>
    intro k i h d3 hf h4 hk hX
    have e1 : zpb tx k = .inl k := by
      unfold zpb zbt
      rw [decide_eq_false (show ¬ k < tx.length by omega), Bool.false_and, if_pos rfl]
    refine ⟨h, ?_, fun _ _ _ _ => rfl, fun l e => by cases e⟩
    rw [zb_95_9, zS_cge (by omega) (by omega), decide_eq_false (by omega), if_neg (by decide), zn_flt hX (by omega), e1]
    simp only [Option.bind_some, zpush]
    rw [zb_95_20]
    show (if zci .eq (nI k) (-1) = true then _ else _) = _
    rw [zS_eqm1 k (by omega), if_neg (by decide)]
    rfl
  | succ f ih =>
    intro k i h d3 hf h4 hk hX
    rw [zb_95_9, zS_cge (by omega) (by omega), decide_eq_false (by omega), if_neg (by decide), zn_flt hX (by omega)]
    simp only [Option.bind_some, zpush]
    rw [zb_95_20]
    obtain ⟨u1, u2⟩ := zpb_up (tx := tx) (k := k)
    cases hp : zpb tx k with
    | inl j =>
      have := u1 j hp
      rw [zpl_a hp]
      refine ⟨h, ?_, fun _ _ _ _ => rfl, fun l e => by cases e⟩
      show (if zci .eq (nI j) (-1) = true then _ else _) = _
      rw [zS_eqm1 j (by omega), if_neg (by decide)]
      rfl
    | inr q =>
      obtain ⟨j, a, b, n⟩ := q
      obtain ⟨v1, v2⟩ := u2 j a b n hp
      obtain ⟨w1, w2, w3, w4⟩ := zpb_in hp
      have hlen := hX.2.1
      obtain ⟨h1, r1, r2, r3, r4, r5, r6, r7⟩ := zn_take hX (show i < 16 by omega) (show k < 90 by omega) hp
      have X1 := zXt_kx hX r6
      have e0 : zci .eq (zpf (.inr (j, a, b, n))) (-1) = true := by
        show zci .eq (-1) (-1) = true
        decide
      rw [e0, if_pos rfl, r1]
      simp only [Option.bind_some, zpush]
      rw [zb_95_35, zS_add, show k + (j - k) = j by omega, X1.1, zS_clt (by omega) (by omega)]
      by_cases h5 : tx.length ≤ j
      · rw [decide_eq_false (by omega), if_neg (by decide), zpl_b1 hp h5]
        refine ⟨h1, rfl, r6, fun l e => ?_⟩
        have e := Sum.inr.inj e
        subst e
        refine ⟨r2, fun t x hx => ?_⟩
        have ht : t = 0 := by
          have := (List.getElem?_eq_some_iff.mp hx).1
          simp at this
          exact this
        subst ht
        simp at hx
        subst hx
        exact ⟨r3, r4, r5⟩
      · rw [decide_eq_true (by omega), if_pos rfl, zn_sgn X1 (by omega) (by omega)]
        simp only [Option.bind_some, zpush]
        rw [zb_95_54, zS_b0n, zS_add, zS_add]
        cases h6 : zbt tx j 44 44 with
        | false =>
          rw [if_neg (by decide), zpl_b2 hp h5 h6]
          exact ⟨h1, rfl, r6, fun l e => by cases e⟩
        | true =>
          rw [if_pos rfl]
          obtain ⟨h2, s1, s2, s3⟩ := ih (j + 1) (i + 1) h1 (some (.inl (zpf (.inr (j, a, b, n))))) (by omega) (by omega) (by omega) X1
          have hK : zKx i h h2 := fun x y q1 q2 => by rw [s2 x y q1 (fun e => q2 ⟨e.1, by omega⟩), r6 x y q1 q2]
          cases hq : zpl tx f (j + 1) with
          | inl e2 =>
            rw [hq] at s1
            rw [zpl_b3 hp h5 h6 hq]
            exact ⟨h2, s1, hK, fun l e => by cases e⟩
          | inr l2 =>
            rw [hq] at s1
            rw [zpl_b4 hp h5 h6 hq]
            refine ⟨h2, s1, hK, fun l e => ?_⟩
            have e := Sum.inr.inj e
            subst e
            obtain ⟨t1, t2⟩ := s3 l2 hq
            refine ⟨by rw [t1, List.length_cons, show i + 1 + l2.length = i + (l2.length + 1) by omega], fun t x hx => ?_⟩
            cases t with
            | zero =>
              simp at hx
              subst hx
              exact ⟨by rw [Nat.add_zero, s2 _ _ (by omega) (by omega), r3], by rw [Nat.add_zero, s2 _ _ (by omega) (by omega), r4], by rw [Nat.add_zero, s2 _ _ (by omega) (by omega), r5]⟩
            | succ t =>
              have := t2 t x (by simpa using hx)
              rw [show i + 1 + t = i + (t + 1) by omega] at this
              exact this
theorem zn_rd {h : zHp} {tx : List Nat} (hX : zXt h tx) : ∃ h', zM_95 [.inr 57] h = some (some (zpr (zpl tx 61 0)), h') ∧ zKx 0 h h' ∧ ∀ l, zpl tx 61 0 = .inr l → h' 57 2 = nI l.length ∧ zEt h' 0 l := by
  have hlen := hX.2.1
  have X1 : zXt (zup h 57 2 (nI 0)) tx := zXt_fr hX (zS_zup_nk _ _ (by omega) _) (fun j => zS_zup_ne _ (by omega) _ _ _)
  obtain ⟨h', r1, r2, r3⟩ := zn_rdl 61 0 0 (zup h 57 2 (nI 0)) none (by omega) (by omega) (by omega) X1
  refine ⟨h', (ze_95 h).trans r1, fun b j q1 q2 => ?_, fun l e => ?_⟩
  · rw [r2 b j q1 q2]
    unfold zup
    rw [if_neg q1]
  · have := r3 l e
    rw [Nat.zero_add] at this
    exact this
theorem zpl_in {tx : List Nat} : ∀ (f k : Nat) (l : List (Nat × Nat × Nat)), zpl tx f k = .inr l → ∀ x, x ∈ l → x.1 ≤ 9 ∧ x.2.1 ≤ 9 ∧ x.2.2 ≤ 99 := by
  intro f
  induction f with
  | zero => intro k l h; cases h
  | succ f ih =>
    intro k l h x hx
    cases hp : zpb tx k with
    | inl j =>
      rw [zpl_a hp] at h
      cases h
    | inr q =>
      obtain ⟨j, a, b, n⟩ := q
      obtain ⟨w1, w2, w3, w4⟩ := zpb_in hp
      rcases zpl_i hp h with ⟨_, e⟩ | ⟨_, l2, hq, e⟩
      · subst e
        simp at hx
        subst hx
        exact ⟨w2, w3, w4⟩
      · subst e
        rcases List.mem_cons.mp hx with rfl | hx
        · exact ⟨w2, w3, w4⟩
        · exact ih (j + 1) l2 hq x hx
/-- how many borders a text has room for -/
theorem zpl_16 {tx : List Nat} (ht : tx.length ≤ 60) : ∀ (f k i : Nat) (l : List (Nat × Nat × Nat)), 4 * i ≤ k → zpl tx f k = .inr l → i + l.length ≤ 16 := by
  intro f
  induction f with
  | zero => intro k i l _ h; cases h
  | succ f ih =>
    intro k i l h4 h
    cases hp : zpb tx k with
    | inl j =>
      rw [zpl_a hp] at h
      cases h
    | inr q =>
      obtain ⟨j, a, b, n⟩ := q
      obtain ⟨w1, w2, w3, w4⟩ := zpb_in hp
      obtain ⟨v1, v2⟩ := (zpb_up (tx := tx) (k := k)).2 j a b n hp
      rcases zpl_i hp h with ⟨_, e⟩ | ⟨_, l2, hq, e⟩
      · subst e
        simp
        omega
      · subst e
        have := ih (j + 1) (i + 1) l2 (by omega) hq
        rw [List.length_cons]
        omega
