/-! The reference's text: all borders. -/
def zpl (tx : List Nat) : Nat → Nat → Nat ⊕ List (Nat × Nat × Nat)
  | 0, k => .inl k
  | f + 1, k => match zpb tx k with
    | .inl j => .inl j
    | .inr (j, a, b, n) => if tx.length ≤ j then .inr [(a, b, n)] else if zbt tx j 44 44 = false then .inl j else match zpl tx f (j + 1) with
      | .inl e => .inl e
      | .inr l => .inr ((a, b, n) :: l)
theorem zpb_in {tx : List Nat} {k j a b n : Nat} (h : zpb tx k = .inr (j, a, b, n)) : k + 3 ≤ j ∧ a ≤ 9 ∧ b ≤ 9 ∧ n ≤ 99 := by
  unfold zpb at h
  split at h
  · cases h
  rename_i h1
  split at h
  · cases h
  split at h
  · cases h
  rename_i h3
  have l1 := zbt_lt (tx := tx) (k := k) (a := 48) (b := 57) (by simpa using h1)
  have l3 := zbt_lt (tx := tx) (k := k + 2) (a := 48) (b := 57) (by simpa using h3)
  split at h
  · simp only [Sum.inr.injEq, Prod.mk.injEq] at h
    omega
  split at h
  · cases h
  rename_i h5
  have l5 := zbt_lt (tx := tx) (k := k + 4) (a := 49) (b := 57) (by simpa using h5)
  split at h
  · simp only [Sum.inr.injEq, Prod.mk.injEq] at h
    omega
  rename_i h6
  have l6 := zbt_lt (tx := tx) (k := k + 5) (a := 48) (b := 57) (by simpa using h6)
  simp only [Sum.inr.injEq, Prod.mk.injEq] at h
  omega
theorem zpl_len {tx : List Nat} : ∀ (f k : Nat) (l : List (Nat × Nat × Nat)), zpl tx f k = .inr l → l.length ≤ f ∧ l ≠ [] := by
  intro f
  induction f with
  | zero => intro k l h; cases h
  | succ f ih =>
    intro k l h
    unfold zpl at h
    split at h
    · cases h
    · split at h
      · cases h
        simp
      · split at h
        · cases h
        · split at h
          · cases h
          · rename_i l' hl
            cases h
            have := ih _ _ hl
            simp
            omega
theorem zm_bt1 {tx : List Nat} : ∀ (f k acc : Nat) (h : zHp), tx.length < k + f → acc + f ≤ 1000 → zTx h tx k → ∃ h', zKt h h' ∧ match zpl tx f k with
    | .inl j => zr_27 9 [some (.inr 76), some (.inl (nI acc)), some (.inl (nI 1))] [] h = some (some (-5), h') ∧ zTx h' tx j
    | .inr l => zr_27 9 [some (.inr 76), some (.inl (nI acc)), some (.inl (nI 1))] [] h = some (some (nI (acc + l.length)), h') := by
  intro f
  induction f with
  | zero =>
    intro k acc h hk _ hT
    have e0 : zci .eq (nI 1) (nI 0) = false := by decide
    obtain ⟨h', p1, p2⟩ := zm_border1 hT
    have hb : zpb tx k = .inl k := by
      unfold zpb
      have : zbt tx k 48 57 = false := by
        unfold zbt
        rw [decide_eq_false (by omega), Bool.false_and]
      rw [if_pos this]
    rw [hb] at p2
    refine ⟨h', p1, ?_, p2.2⟩
    rw [zb_27_9, e0, if_neg (by decide), p2.1]
    simp only [Option.bind_some, zpush]
    rw [zb_27_17]
    rfl
  | succ f ih =>
    intro k acc h hk hacc hT
    have e0 : zci .eq (nI 1) (nI 0) = false := by decide
    have e00 : zci .eq (nI 0) (nI 0) = true := by decide
    have e1 : zci .ne (nI 1) (nI 0) = true := by decide
    have e2 : zci .ne (nI 0) (nI 0) = false := by decide
    obtain ⟨h1, p1, p2⟩ := zm_border1 hT
    have start := zb_27_9 (nI acc) (nI 1) h
    rw [e0, if_neg (by decide)] at start
    unfold zpl
    cases hb : zpb tx k with
    | inl j =>
      rw [hb] at p2
      rw [p2.1] at start
      simp only [Option.bind_some, zpush] at start
      rw [zb_27_17, e2, if_neg (by decide)] at start
      exact ⟨h1, p1, start, p2.2⟩
    | inr r =>
      obtain ⟨j, a, b, n⟩ := r
      rw [hb] at p2
      dsimp only at p2 ⊢
      obtain ⟨r1, r2, r3, r4, r5⟩ := p2
      obtain ⟨g1, g2, g3, g4⟩ := zpb_in hb
      have hj61 := r2.2.2.2.2
      have t2 := r2.2.1
      rw [r1] at start
      simp only [Option.bind_some, zpush] at start
      rw [zb_27_17, e1, if_pos rfl, r2.1, r2.2.2.2.1, zS_cge (by omega) (by omega), e00, e0, zS_add] at start
      by_cases h2 : tx.length ≤ j
      · have fin : zr_27 9 [some (.inr 76), some (.inl (nI (acc + 1))), some (.inl (nI 0))] [] h1 = some (some (nI (acc + 1)), h1) := by rw [zb_27_9, e00, if_pos rfl]
        rw [decide_eq_true h2, if_pos rfl, if_pos rfl, fin] at start
        rw [if_pos h2]
        exact ⟨h1, p1, start⟩
      · obtain ⟨h3, q1, q2, q3, q4⟩ := zm_takes r2 (a := 44) (by omega)
        rw [decide_eq_false h2, if_neg (by decide), if_neg (by decide), q1] at start
        simp only [Option.bind_some, zpush] at start
        rw [zb_27_53, zS_b0n] at start
        rw [if_neg h2]
        cases h4 : zbt tx j 44 44 with
        | false =>
          rw [h4, if_neg (by decide)] at start
          rw [h4] at q3
          rw [if_pos rfl]
          exact ⟨h3, zKt_tr p1 q2, start, zTx_at r2 q2 q3 (by omega)⟩
        | true =>
          rw [h4, if_pos rfl] at start
          rw [h4] at q3
          rw [if_neg (by decide)]
          obtain ⟨h', s1, s2⟩ := ih (j + 1) (acc + 1) h3 (by omega) (by omega) (zTx_at r2 q2 q3 (by omega))
          refine ⟨h', zKt_tr p1 (zKt_tr q2 s1), ?_⟩
          cases hl : zpl tx f (j + 1) with
          | inl e =>
            rw [hl] at s2
            exact ⟨start.trans s2.1, s2.2⟩
          | inr l =>
            rw [hl] at s2
            dsimp only at s2 ⊢
            rw [start, s2, List.length_cons, show acc + 1 + l.length = acc + (l.length + 1) by omega]
def zbad2 (m : Nat → Nat) (x : Nat × Nat × Nat) : Bool := !zt m x.1 || !zt m x.2.1
def zsam (x : Nat × Nat × Nat) : Bool := decide (x.1 = x.2.1)
def zany (g : Nat × Nat × Nat → Bool) : List (Nat × Nat × Nat) → Bool
  | [] => false
  | x :: l => g x || zany g l
def zput (m : Nat → Nat) : List (Nat × Nat × Nat) → (Nat → Nat)
  | [] => m
  | x :: l => zput (zly m x.1 x.2.1 x.2.2) l
theorem zKt_R {h h' : zHp} {m : Nat → Nat} (a : zKt h h') (hR : zR h m) : zR h' m := fun k hk => by rw [a 77 k (by omega), hR k hk]
theorem zKt_V {h h' : zHp} {m : Nat → Nat} {hs : List (Nat → Nat)} {sn : Option (Nat → Nat)} {tx : List Nat} (a : zKt h h') (hV : zMV h m hs sn tx) : zMV h' m hs sn tx := zMV_keep hV (fun j => a 77 j (by omega)) (fun j => a 78 j (by omega)) (fun j => a 79 j (by omega)) (fun j => a 83 j (by omega)) (fun j hj => a 76 j (by omega))
theorem zKt_lo {h h' : zHp} (a : zKt h h') : zlo h h' := fun b hb j => a b j (by omega)
/-- the second reading: are they there, are two the same -/
theorem zm_rd1 {m : Nat → Nat} (hB : zB m) {tx : List Nat} {N : Nat} (hN : N ≤ 100) : ∀ (f k i : Nat) (s : Bool) (l : List (Nat × Nat × Nat)) (h : zHp), zpl tx f k = .inr l → i + l.length = N → zTx h tx k → zR h m → ∃ h', zKt h h' ∧ zr_28 28 [some (.inr 76), some (.inl (nI N)), some (.inl (nI s.toNat)), some (.inl (nI i))] [] h = if zany (zbad2 m) l = true then some (some (-1), h') else zr_28 28 [some (.inr 76), some (.inl (nI N)), some (.inl (nI (s || zany zsam l).toNat)), some (.inl (nI N))] [] h' := by
  intro f
  induction f with
  | zero => intro k i s l h hl; cases hl
  | succ f ih =>
    intro k i s l h hl hi hT hR
    have hlen := zpl_len _ _ _ hl
    unfold zpl at hl
    cases hb : zpb tx k with
    | inl j => rw [hb] at hl; cases hl
    | inr r =>
      obtain ⟨j, a, b, n⟩ := r
      rw [hb] at hl
      dsimp only at hl
      obtain ⟨h1, p1, p2⟩ := zm_border1 hT
      rw [hb] at p2
      obtain ⟨r1, r2, r3, r4, r5⟩ := p2
      obtain ⟨g1, g2, g3, g4⟩ := zpb_in hb
      have hj61 := r2.2.2.2.2
      have hpos : 0 < l.length := by
        cases l with
        | nil => exact absurd rfl hlen.2
        | cons => simp
      have hlj : ∃ l', l = (a, b, n) :: l' ∧ (l' = [] ∨ (zpl tx f (j + 1) = .inr l' ∧ j + 1 ≤ 61)) := by
        split at hl
        · cases hl
          exact ⟨[], rfl, Or.inl rfl⟩
        · split at hl
          · cases hl
          · split at hl
            · cases hl
            · rename_i h5 l' hl'
              cases hl
              have := r2.2.1
              exact ⟨l', rfl, Or.inr ⟨hl', by omega⟩⟩
      obtain ⟨l', hl1, hl2⟩ := hlj
      have start : zr_28 28 [some (.inr 76), some (.inl (nI N)), some (.inl (nI s.toNat)), some (.inl (nI i))] [] h = (zM_7 [.inr 76, .inl (nI a)] (zup h1 76 15 (nI (j + 1)))).bind (fun r => zr_28 56 [some (.inr 76), some (.inl (nI N)), some (.inl (nI s.toNat)), some (.inl (nI i))] (zpush r.1 []) r.2) := by
        rw [zb_28_28, zS_cge (by omega) (by omega), decide_eq_false (by omega), if_neg (by decide), r1]
        simp only [Option.bind_some, zpush]
        rw [zb_28_37, r2.2.2.2.1, zS_add, zS_zup_nk _ _ (by omega), r3]
        rfl
      have hK2 : zKt h (zup h1 76 15 (nI (j + 1))) := zKt_up p1 (by omega) (by omega) _
      have hR2 := zKt_R hK2 hR
      have a17 : (zup h1 76 15 (nI (j + 1))) 76 17 = nI b := by rw [zS_zup_nk _ _ (by omega), r4]
      have a16 : (zup h1 76 15 (nI (j + 1))) 76 16 = nI a := by rw [zS_zup_nk _ _ (by omega), r3]
      have a15 : (zup h1 76 15 (nI (j + 1))) 76 15 = nI (j + 1) := zS_zup_same _ _ _ _
      have ea : zth m (nI a) = zt m a := zth_nI (by omega)
      have eb : zth m (nI b) = zt m b := zth_nI (by omega)
      have ha2 : zany (zbad2 m) ((a, b, n) :: l') = ((!zt m a || !zt m b) || zany (zbad2 m) l') := rfl
      have hs2 : zany zsam ((a, b, n) :: l') = (decide (a = b) || zany zsam l') := rfl
      rw [zm_no hR2 hB, ea] at start
      simp only [Option.bind_some, zpush] at start
      rw [zb_28_56, zS_b0n] at start
      rw [hl1, ha2, hs2]
      rw [hl1, List.length_cons] at hi
      cases h5 : zt m a with
      | false =>
        rw [h5, if_pos (by decide)] at start
        exact ⟨_, hK2, by rw [start]; rfl⟩
      | true =>
      rw [h5, if_neg (by decide), a17, zm_no hR2 hB, eb] at start
      simp only [Option.bind_some, zpush] at start
      rw [zb_28_67, zS_b0, Bool.not_not, a16, a17, zS_cne (by omega) (by omega), zS_or, zS_or, zS_add] at start
      cases h6 : zt m b with
      | false =>
        rw [h6, if_neg (by decide)] at start
        exact ⟨_, hK2, by rw [start]; rfl⟩
      | true =>
      have start2 : zr_28 28 [some (.inr 76), some (.inl (nI N)), some (.inl (nI s.toNat)), some (.inl (nI i))] [] h = zr_28 28 [some (.inr 76), some (.inl (nI N)), some (.inl (nI (s || decide (a = b)).toNat)), some (.inl (nI (i + 1)))] [] (zup h1 76 15 (nI (j + 1))) := by
        rw [start, h6, if_pos rfl]
        by_cases h7 : a = b
        · rw [decide_eq_true h7, if_neg (by decide)]
          cases s <;> rfl
        · rw [decide_eq_false h7, if_pos (by decide)]
          cases s <;> rfl
      have e9 : (!true || !true || zany (zbad2 m) l') = zany (zbad2 m) l' := rfl
      rw [e9, ← Bool.or_assoc]
      rcases hl2 with rfl | ⟨hl2, hj⟩
      · refine ⟨_, hK2, ?_⟩
        rw [start2, show i + 1 = N by simpa using hi]
        have : zany (zbad2 m) [] = false := rfl
        rw [this, if_neg (by decide)]
        have : zany zsam [] = false := rfl
        rw [this, Bool.or_false]
      · obtain ⟨h', q1, q2⟩ := ih (j + 1) (i + 1) (s || decide (a = b)) l' _ hl2 (by omega) (zTx_at hT hK2 a15 hj) hR2
        exact ⟨h', zKt_tr hK2 q1, start2.trans q2⟩
