/-! The search over all repaints, as the class goes: rows alone. -/
def zcfl (m : Nat → Nat) (S : Nat) (p : Nat → Nat) : Nat → Nat → Nat → Nat
  | _, 0, X => X
  | k, n + 1, X => zcfl m S p (k + 1) n (if S.testBit k = true then X &&& (255 ^^^ zfbs m (p k)) else X)
def zcof (m op nb : Nat → Nat) (i : Nat) (p : Nat → Nat) : Nat := zcfl m (nb i) p 0 i (op i)
def zgs (m op nb : Nat → Nat) : Nat → Nat → (Nat → Nat) → List (Nat → Nat)
  | 0, _, p => [p]
  | k + 1, i, p => if zt m i = true then zsv (fun v => if (zcof m op nb i p).testBit v = true then zgs m op nb k (i + 1) (zu p i v) else []) 0 4 else zgs m op nb k (i + 1) (zu p i 0)
theorem zcfl_bit {m p : Nat → Nat} {S v : Nat} : ∀ (n k X : Nat), X < 256 → ((zcfl m S p k n X).testBit v = true ↔ X.testBit v = true ∧ ∀ j, k ≤ j → j < k + n → S.testBit j = true → (zfbs m (p j)).testBit v = false) := by
  intro n
  induction n with
  | zero =>
    intro k X h
    exact ⟨fun a => ⟨a, fun j _ _ => by omega⟩, fun a => a.1⟩
  | succ n ih =>
    intro k X h
    unfold zcfl
    by_cases hl : S.testBit k = true
    · rw [if_pos hl, ih _ _ (zclr_lt _ h), zclr_bit h, Bool.and_eq_true, Bool.not_eq_true']
      constructor
      · rintro ⟨⟨a, b⟩, d⟩
        refine ⟨a, fun j j1 j2 j3 => ?_⟩
        by_cases hj : j = k
        · rw [hj]; exact b
        · exact d j (by omega) (by omega) j3
      · rintro ⟨a, d⟩
        exact ⟨⟨a, d k (by omega) (by omega) hl⟩, fun j j1 j2 j3 => d j (by omega) (by omega) j3⟩
    · rw [if_neg hl, ih _ _ h]
      constructor
      · rintro ⟨a, d⟩
        refine ⟨a, fun j j1 j2 j3 => ?_⟩
        by_cases hj : j = k
        · rw [hj] at j3; exact absurd j3 hl
        · exact d j (by omega) (by omega) j3
      · rintro ⟨a, d⟩
        exact ⟨a, fun j j1 j2 j3 => d j (by omega) (by omega) j3⟩
theorem zcfl_le {m p : Nat → Nat} {S : Nat} : ∀ (n k X : Nat), zcfl m S p k n X ≤ X := by
  intro n
  induction n with
  | zero => intro k X; exact Nat.le_refl _
  | succ n ih =>
    intro k X
    unfold zcfl
    refine Nat.le_trans (ih _ _) ?_
    split
    · exact Nat.and_le_left
    · exact Nat.le_refl _
theorem zcfl_congr {m p q : Nat → Nat} {S : Nat} : ∀ (n k X : Nat), (∀ j, k ≤ j → j < k + n → S.testBit j = true → p j = q j) → zcfl m S p k n X = zcfl m S q k n X := by
  intro n
  induction n with
  | zero => intro k X _; rfl
  | succ n ih =>
    intro k X h
    unfold zcfl
    by_cases hl : S.testBit k = true
    · rw [if_pos hl, if_pos hl, h k (by omega) (by omega) hl]
      exact ih _ _ (fun j a b => h j (by omega) (by omega))
    · rw [if_neg hl, if_neg hl]
      exact ih _ _ (fun j a b => h j (by omega) (by omega))
theorem zcof_congr {m op nb p q : Nat → Nat} {i : Nat} (h : ∀ j, j < i → (nb i).testBit j = true → p j = q j) : zcof m op nb i p = zcof m op nb i q := zcfl_congr _ _ _ (fun j _ b => h j (by omega))
theorem zsv_congr {f g : Nat → List (Nat → Nat)} : ∀ (n w : Nat), (∀ v, w ≤ v → v < w + n → f v = g v) → zsv f w n = zsv g w n := by
  intro n
  induction n with
  | zero => intro w _; rfl
  | succ n ih =>
    intro w h
    show f w ++ zsv f (w + 1) n = g w ++ zsv g (w + 1) n
    rw [h w (by omega) (by omega), ih (w + 1) (fun v a b => h v (by omega) (by omega))]
theorem zsv_mem2 {f : Nat → List (Nat → Nat)} {q : Nat → Nat} : ∀ (n w v : Nat), w ≤ v → v < w + n → q ∈ f v → q ∈ zsv f w n := by
  intro n
  induction n with
  | zero => intro w v a b; omega
  | succ n ih =>
    intro w v a b h
    show q ∈ f w ++ zsv f (w + 1) n
    rw [List.mem_append]
    by_cases hv : v = w
    · subst hv
      exact Or.inl h
    · exact Or.inr (ih (w + 1) v (by omega) (by omega) h)
theorem zgs_s (m op nb : Nat → Nat) (k i : Nat) (p : Nat → Nat) : zgs m op nb (k + 1) i p = if zt m i = true then zsv (fun v => if (zcof m op nb i p).testBit v = true then zgs m op nb k (i + 1) (zu p i v) else []) 0 4 else zgs m op nb k (i + 1) (zu p i 0) := rfl
theorem zu_at (p : Nat → Nat) (i : Nat) : zu p i (p i) = p := by
  funext j
  unfold zu
  split
  · rename_i h
    rw [h]
  · rfl
theorem zgs_mem {m op nb : Nat → Nat} : ∀ (k i : Nat) (p q : Nat → Nat), q ∈ zgs m op nb k i p ↔ (∀ o, o < i ∨ i + k ≤ o → q o = p o) ∧ ∀ c, i ≤ c → c < i + k → (zt m c = true → q c < 4 ∧ (zcof m op nb c q).testBit (q c) = true) ∧ (zt m c = false → q c = 0) := by
  intro k
  induction k with
  | zero =>
    intro i p q
    show q ∈ [p] ↔ _
    rw [List.mem_singleton]
    constructor
    · rintro rfl
      exact ⟨fun _ _ => rfl, fun c a b => by omega⟩
    · rintro ⟨a, _⟩
      funext o
      exact a o (by omega)
  | succ k ih =>
    intro i p q
    have bak : ∀ v, q ∈ zgs m op nb k (i + 1) (zu p i v) ↔ (q i = v ∧ (∀ o, o < i ∨ i + (k + 1) ≤ o → q o = p o) ∧ ∀ c, i + 1 ≤ c → c < i + (k + 1) → (zt m c = true → q c < 4 ∧ (zcof m op nb c q).testBit (q c) = true) ∧ (zt m c = false → q c = 0)) := by
      intro v
      rw [ih]
      constructor
      · rintro ⟨a, b⟩
        refine ⟨by rw [a i (by omega), zu_same], fun o ho => by rw [a o (by omega), zu_ne _ (by omega)], fun c c1 c2 => b c c1 (by omega)⟩
      · rintro ⟨e, a, b⟩
        refine ⟨fun o ho => ?_, fun c c1 c2 => b c c1 (by omega)⟩
        by_cases hoi : o = i
        · rw [hoi, zu_same, e]
        · rw [zu_ne _ hoi]
          exact a o (by omega)
    rw [zgs_s]
    cases ht : zt m i with
    | true =>
      rw [if_pos rfl]
      constructor
      · intro hq
        obtain ⟨v, v1, v2, v3⟩ := zsv_mem 4 0 hq
        split at v3
        · rename_i hb
          obtain ⟨e, a, b⟩ := (bak v).mp v3
          refine ⟨a, fun c c1 c2 => ?_⟩
          by_cases hc : c = i
          · subst hc
            rw [e, zcof_congr (q := p) (fun j hj _ => a j (by omega))]
            exact ⟨fun _ => ⟨by omega, hb⟩, fun e => by rw [ht] at e; cases e⟩
          · exact b c (by omega) c2
        · simp at v3
      · rintro ⟨a, b⟩
        obtain ⟨b1, b2⟩ := (b i (by omega) (by omega)).1 ht
        refine zsv_mem2 4 0 (q i) (by omega) (by omega) ?_
        rw [zcof_congr (q := p) (fun j hj _ => a j (by omega))] at b2
        rw [if_pos b2]
        exact (bak (q i)).mpr ⟨rfl, a, fun c c1 c2 => b c (by omega) c2⟩
    | false =>
      rw [if_neg (by decide), bak 0]
      constructor
      · rintro ⟨e, a, b⟩
        refine ⟨a, fun c c1 c2 => ?_⟩
        by_cases hc : c = i
        · subst hc
          exact ⟨fun e => (by rw [ht] at e; cases e), fun _ => e⟩
        · exact b c (by omega) c2
      · rintro ⟨a, b⟩
        exact ⟨(b i (by omega) (by omega)).2 ht, a, fun c c1 c2 => b c (by omega) c2⟩
theorem zgs_end {m op nb : Nat → Nat} : ∀ (n i : Nat) (p : Nat → Nat), zev8 m ≤ i → (∀ j, i ≤ j → p j = 0) → zgs m op nb n i p = [p] := by
  intro n
  induction n with
  | zero => intro i p _ _; rfl
  | succ n ih =>
    intro i p hi hp
    have e : zu p i 0 = p := by
      rw [← hp i (Nat.le_refl _), zu_at]
    rw [zgs_s, zt_no hi, if_neg (by decide), e]
    exact ih (i + 1) p (by omega) (fun j hj => hp j (by omega))
theorem zgs_sol {m op nb : Nat → Nat} {e1 e2 : Int32} (hfit : ∀ i p v, i < zev8 m → zt m i = true → v < 4 → (∀ o, o < i → p o < 4) → (zcof m op nb i p).testBit v = zfit m e1 e2 i v p) : ∀ (k i : Nat) (p : Nat → Nat), i + k = zev8 m → (∀ j, i ≤ j → p j = 0) → (∀ o, o < i → p o < 4) → zgs m op nb (k + (8 - zev8 m)) i p = zsol m e1 e2 k i p := by
  intro k
  induction k with
  | zero =>
    intro i p hi h0 h4
    rw [Nat.zero_add, zgs_end _ _ _ (by omega) h0]
    rfl
  | succ k ih =>
    intro i p hi h0 h4
    rw [show k + 1 + (8 - zev8 m) = (k + (8 - zev8 m)) + 1 by omega, zgs_s]
    show _ = if zt m i = true then zsv (fun v => if zfit m e1 e2 i v p = true then zsol m e1 e2 k (i + 1) (zu p i v) else []) 0 4 else zsol m e1 e2 k (i + 1) (zu p i 0)
    have hz : ∀ v j, i + 1 ≤ j → zu p i v j = 0 := fun v j hj => by rw [zu_ne _ (by omega)]; exact h0 j (by omega)
    have hf : ∀ v, v < 4 → ∀ o, o < i + 1 → zu p i v o < 4 := fun v hv o ho => by
      by_cases hoi : o = i
      · rw [hoi, zu_same]; exact hv
      · rw [zu_ne _ hoi]; exact h4 o (by omega)
    cases ht : zt m i with
    | true =>
      rw [if_pos rfl, if_pos rfl]
      exact zsv_congr 4 0 (fun v v1 v2 => by
        rw [hfit i p v (by omega) ht (by omega) h4]
        rw [ih (i + 1) (zu p i v) (by omega) (hz v) (hf v (by omega))])
    | false =>
      rw [if_neg (by decide), if_neg (by decide)]
      exact ih (i + 1) (zu p i 0) (by omega) (hz 0) (hf 0 (by omega))
/-- the conditions on what is open and on the neighbours -/
def zNC (m op nb : Nat → Nat) : Prop := ∀ c, c < 8 → zt m c = true → op c < 16 ∧ nb c < 256 ∧ ∀ o, o < 8 → (nb c).testBit o = true → zt m o = true ∧ (nb o).testBit c = true
theorem zbit8 {X o : Nat} (hX : X < 256) (h : X.testBit o = true) : o < 8 := by
  rcases Nat.lt_or_ge o 8 with a | a
  · exact a
  · have : X.testBit o = false := Nat.testBit_lt_two_pow (Nat.lt_of_lt_of_le hX (Nat.pow_le_pow_right (n := 2) (by omega) (show 8 ≤ o by omega)))
    rw [this] at h
    cases h
theorem zopn_lt {m : Nat → Nat} (hB : zB m) {c : Nat} (hc : c < 8) : zopn m c < 16 := by
  have b2 := zB_2 hB hc
  unfold zopn
  split
  · exact Nat.lt_of_le_of_lt Nat.and_le_left (by omega)
  · omega
theorem zfit_cof {m nb : Nat → Nat} (hI : zI m) {e1 e2 : Int32} (hnb : ∀ i o, i < 8 → o < i → zt m i = true → (nb i).testBit o = (zt m o && zadj m e1 e2 i o)) (i : Nat) (p : Nat → Nat) (v : Nat) (hi : i < zev8 m) (ht : zt m i = true) (hv : v < 4) (hp : ∀ o, o < i → p o < 4) : (zcof m (zopn m) nb i p).testBit v = zfit m e1 e2 i v p := by
  have he := zB_ev hI.1
  have ho := zopn_lt hI.1 (show i < 8 by omega)
  have i6 := hI.2.2.2.2.2.2.1
  rw [Bool.eq_iff_iff]
  unfold zcof
  rw [zcfl_bit _ _ _ (by omega)]
  unfold zfit
  rw [Bool.and_eq_true, Bool.and_eq_true, zalls_of]
  have e1x : (zopn m i).testBit v = true ↔ (zof m i 2).testBit v = true ∧ (!(decide (zof m i 4 = 1) && !decide (zof m i 1 = v))) = true := by
    unfold zopn
    by_cases h4 : zof m i 4 = 1
    · rw [if_pos h4, decide_eq_true h4, Nat.testBit_and, Nat.testBit_two_pow, Bool.and_eq_true]
      simp
    · rw [if_neg h4, decide_eq_false h4]
      simp
  have e2x : ∀ j, j < i → ((nb i).testBit j = true → (zfbs m (p j)).testBit v = false) = ((!zclash m e1 e2 i v p j) = true) := fun j hj => by
    unfold zclash
    rw [hnb i j (by omega) hj ht, zfbs_bits, decide_eq_true hv, Bool.true_and, i6 v (p j) hv (hp j hj), ← Bool.and_assoc]
    cases (zt m j && zadj m e1 e2 i j) <;> simp
  rw [e1x]
  constructor
  · rintro ⟨⟨a, b⟩, d⟩
    exact ⟨a, b, fun j j1 j2 => (e2x j (by omega)) ▸ d j j1 j2⟩
  · rintro ⟨a, b, d⟩
    exact ⟨⟨a, b⟩, fun j j1 j2 => by
      have := d j j1 j2
      rw [← e2x j (by omega)] at this
      exact this⟩
