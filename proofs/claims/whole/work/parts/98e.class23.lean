/-! readBorders of the class: the text. -/
def zXt (h : zHp) (tx : List Nat) : Prop := h 57 0 = nI tx.length ∧ tx.length ≤ 60 ∧ ∀ j, j < tx.length → h 58 j = nI (zg tx j) ∧ zg tx j < 65536
theorem zXt_of {h : zHp} {tx : List Nat} (hT : zCT2 h tx) (hch : ∀ x, x ∈ tx → x < 65536) : zXt h tx := by
  obtain ⟨b1, b2, b3⟩ := hT
  refine ⟨b1, b2, fun j hj => ?_⟩
  have e1 : tx[j]? = some tx[j] := List.getElem?_eq_getElem hj
  have e2 : zg tx j = tx[j] := by
    unfold zg
    rw [e1]
    rfl
  rw [e2]
  exact ⟨b3 j _ e1, hch _ (List.getElem_mem hj)⟩
theorem zXt_fr {h h' : zHp} {tx : List Nat} (hX : zXt h tx) (h0 : h' 57 0 = h 57 0) (h8 : ∀ j, h' 58 j = h 58 j) : zXt h' tx := by
  obtain ⟨b1, b2, b3⟩ := hX
  exact ⟨by rw [h0, b1], b2, fun j hj => by rw [h8]; exact b3 j hj⟩
theorem zn_dig {h : zHp} {tx : List Nat} (hX : zXt h tx) {k : Nat} (hk : k < 100) : zM_90 [.inr 57, .inl (nI k)] h = some (some (nI (zbt tx k 48 57).toNat), h) := by
  obtain ⟨b1, b2, b3⟩ := hX
  rw [ze_90, b1, zS_cge (by omega) (by omega), zS_bo0, zS_bo1]
  unfold zbt
  by_cases h1 : tx.length ≤ k
  · rw [decide_eq_true h1, if_pos rfl, if_pos rfl, decide_eq_false (by omega)]
    rfl
  · obtain ⟨c1, c2⟩ := b3 k (by omega)
    rw [decide_eq_false h1, if_neg (by decide), zS_ib _ (by omega), decide_eq_true (show k < 60 by omega), zS_cl (by omega), c1, zS_clt (by omega) (by omega), zS_cgt (by omega) (by omega), decide_eq_true (show k < tx.length by omega)]
    by_cases h2 : zg tx k < 48
    · rw [decide_eq_true h2, decide_eq_false (show ¬ 48 ≤ zg tx k by omega)]
      rfl
    · rw [decide_eq_false h2, decide_eq_true (show 48 ≤ zg tx k by omega)]
      by_cases h3 : 57 < zg tx k
      · rw [decide_eq_true h3, decide_eq_false (show ¬ zg tx k ≤ 57 by omega)]
        rfl
      · rw [decide_eq_false h3, decide_eq_true (show zg tx k ≤ 57 by omega)]
        rfl
theorem zn_sgn {h : zHp} {tx : List Nat} (hX : zXt h tx) {k s : Nat} (hk : k < 100) (hs : s < 65536) : zM_91 [.inr 57, .inl (nI k), .inl (nI s)] h = some (some (nI (zbt tx k s s).toNat), h) := by
  obtain ⟨b1, b2, b3⟩ := hX
  rw [ze_91, b1, zS_cge (by omega) (by omega), zS_bo0, zS_bo1]
  unfold zbt
  by_cases h1 : tx.length ≤ k
  · rw [decide_eq_true h1, if_pos rfl, if_pos rfl, decide_eq_false (by omega)]
    rfl
  · obtain ⟨c1, c2⟩ := b3 k (by omega)
    rw [decide_eq_false h1, if_neg (by decide), zS_ib _ (by omega), decide_eq_true (show k < 60 by omega), if_pos rfl, zS_cl (by omega), c1, zS_cne (by omega) (by omega), decide_eq_true (show k < tx.length by omega)]
    by_cases h2 : zg tx k = s
    · rw [decide_eq_true h2, if_neg (by decide), if_pos rfl, decide_eq_true (show s ≤ zg tx k by omega), decide_eq_true (show zg tx k ≤ s by omega)]
      rfl
    · rw [decide_eq_false h2, if_pos (by decide), if_pos rfl]
      by_cases h3 : s ≤ zg tx k
      · rw [decide_eq_true h3, decide_eq_false (show ¬ zg tx k ≤ s by omega)]
        rfl
      · rw [decide_eq_false h3]
        rfl
def zdga (tx : List Nat) (k : Nat) : Nat := if zbt tx k 48 57 = true then zg tx k - 48 else 0
theorem zn_dga {h : zHp} {tx : List Nat} (hX : zXt h tx) {k : Nat} (hk : k < 100) : zM_92 [.inr 57, .inl (nI k)] h = some (some (nI (zdga tx k)), h) := by
  obtain ⟨b1, b2, b3⟩ := id hX
  rw [ze_92, zn_dig hX hk]
  simp only [Option.bind_some, zpush]
  rw [zb_92_5, zS_b0]
  unfold zdga
  cases h1 : zbt tx k 48 57 with
  | false => rfl
  | true =>
    obtain ⟨c1, c2, c3⟩ := zbt_lt h1
    obtain ⟨e1, e2⟩ := b3 k c1
    rw [if_neg (by decide), zS_ib _ (by omega), decide_eq_true (show k < 60 by omega), if_pos rfl, zS_cl (by omega), e1, zS_sub (by omega), if_pos rfl]
theorem zdga_0 {tx : List Nat} {k : Nat} : zdga tx k = 0 ↔ zbt tx k 49 57 = false := by
  unfold zdga zbt
  by_cases h1 : k < tx.length
  · simp only [h1, decide_true, Bool.true_and]
    by_cases h2 : zg tx k ≤ 57
    · simp only [h2, decide_true, Bool.and_true]
      by_cases h3 : 48 ≤ zg tx k
      · rw [if_pos (decide_eq_true h3), decide_eq_false_iff_not]
        omega
      · rw [if_neg (by simpa using h3), decide_eq_false_iff_not]
        omega
    · simp [h2]
  · simp [h1]
theorem zdga_pos {tx : List Nat} {k : Nat} (h : zbt tx k 48 57 = true) : zdga tx k = zg tx k - 48 := by
  unfold zdga
  rw [if_pos h]
theorem zbt_49 {tx : List Nat} {k : Nat} (h : zbt tx k 49 57 = true) : zbt tx k 48 57 = true := by
  obtain ⟨a, b, c⟩ := zbt_lt h
  unfold zbt
  rw [decide_eq_true a, decide_eq_true (show 48 ≤ zg tx k by omega), decide_eq_true c]
  rfl
def zpf (r : Nat ⊕ (Nat × Nat × Nat × Nat)) : Int32 := match r with
  | .inl j => nI j
  | .inr _ => -1
theorem zn_flt {h : zHp} {tx : List Nat} (hX : zXt h tx) {k : Nat} (hk : k < 90) : zM_93 [.inr 57, .inl (nI k)] h = some (some (zpf (zpb tx k)), h) := by
  rw [ze_93, zn_dig hX (by omega)]
  simp only [Option.bind_some, zpush]
  rw [zb_93_5, zS_b0n, zS_add]
  unfold zpb
  cases h1 : zbt tx k 48 57 with
  | false => rfl
  | true =>
  rw [if_pos rfl, if_neg (by decide), zn_sgn hX (by omega) (by omega)]
  simp only [Option.bind_some, zpush]
  rw [zb_93_19, zS_b0n, zS_add, zS_add]
  cases h2 : zbt tx (k + 1) 45 45 with
  | false => rfl
  | true =>
  rw [if_pos rfl, if_neg (by decide), zn_dig hX (by omega)]
  simp only [Option.bind_some, zpush]
  rw [zb_93_33, zS_b0n, zS_add, zS_add]
  cases h3 : zbt tx (k + 2) 48 57 with
  | false => rfl
  | true =>
  rw [if_pos rfl, if_neg (by decide), zn_sgn hX (by omega) (by omega)]
  simp only [Option.bind_some, zpush]
  rw [zb_93_49, zS_b0, zS_add]
  cases h4 : zbt tx (k + 3) 58 58 with
  | false => rfl
  | true =>
  have hd9 : zdga tx (k + 4) < 10 := by
    unfold zdga
    split
    · rename_i hq
      have := zbt_lt hq
      omega
    · omega
  rw [if_neg (by decide), if_neg (by decide), zn_dga hX (by omega)]
  simp only [Option.bind_some, zpush]
  rw [zb_93_59, zS_cne (by omega) (by omega), zS_add]
  by_cases h5 : zdga tx (k + 4) = 0
  · rw [decide_eq_true h5, if_neg (by decide), if_pos (zdga_0.mp h5)]
    rfl
  · rw [decide_eq_false h5, if_pos (by decide), if_neg (fun e => h5 (zdga_0.mpr e))]
    split <;> rfl
/-- what taking a border changes -/
def zKx (i : Nat) (h h' : zHp) : Prop := ∀ b j, ¬ (b = 57 ∧ j = 2) → ¬ ((b = 59 ∨ b = 60 ∨ b = 61) ∧ i ≤ j) → h' b j = h b j
theorem zn_take {h : zHp} {tx : List Nat} (hX : zXt h tx) {i k j a b n : Nat} (hi : i < 16) (hk : k < 90) (hp : zpb tx k = .inr (j, a, b, n)) : ∃ h', zM_94 [.inr 57, .inl (nI i), .inl (nI k)] h = some (some (nI (j - k)), h') ∧ h' 57 2 = nI (i + 1) ∧ h' 59 i = nI a ∧ h' 60 i = nI b ∧ h' 61 i = nI n ∧ zKx i h h' ∧ zKx (i + 1) (zup (zup (zup (zup h 59 i (nI a)) 60 i (nI b)) 61 i (nI n)) 57 2 (nI (i + 1))) h' := by
  have h1 : zbt tx k 48 57 = true := by
    cases hq : zbt tx k 48 57 with
    | true => rfl
    | false =>
      unfold zpb at hp
      rw [hq, if_pos rfl] at hp
      cases hp
  have h3 : zbt tx (k + 2) 48 57 = true := by
    cases hq : zbt tx (k + 2) 48 57 with
    | true => rfl
    | false =>
      unfold zpb at hp
      rw [h1, if_neg (by decide), hq] at hp
      split at hp
      · cases hp
      · rw [if_pos rfl] at hp
        cases hp
  have h2 : zbt tx (k + 1) 45 45 = true := by
    cases hq : zbt tx (k + 1) 45 45 with
    | true => rfl
    | false =>
      unfold zpb at hp
      rw [h1, if_neg (by decide), hq, if_pos rfl] at hp
      cases hp
  unfold zpb at hp
  rw [h1, if_neg (by decide), h2, if_neg (by decide), h3, if_neg (by decide)] at hp
  have start := ze_94 (nI i) (nI k) h
  rw [zn_dga hX (by omega), zdga_pos h1] at start
  simp only [Option.bind_some, zpush] at start
  have X1 : zXt (zup h 59 i (nI (zg tx k - 48))) tx := zXt_fr hX (zS_zup_ne _ (by omega) _ _ _) (fun j => zS_zup_ne _ (by omega) _ _ _)
  rw [zb_94_10, zS_ib _ (by omega), decide_eq_true hi, if_pos rfl, zS_cl (by omega), zS_add, zn_dga X1 (by omega), zdga_pos h3] at start
  simp only [Option.bind_some, zpush] at start
  have X2 : zXt (zup (zup (zup h 59 i (nI (zg tx k - 48))) 60 i (nI (zg tx (k + 2) - 48))) 61 i (nI 1)) tx := zXt_fr X1 (by rw [zS_zup_ne _ (by omega), zS_zup_ne _ (by omega)]) (fun j => by rw [zS_zup_ne _ (by omega), zS_zup_ne _ (by omega)])
  rw [zb_94_23, zS_ib _ (by omega), decide_eq_true hi, if_pos rfl, if_pos rfl, zS_cl (by omega), zS_add, zn_sgn X2 (by omega) (by omega)] at start
  simp only [Option.bind_some, zpush] at start
  rw [zb_94_42, zS_b0, zS_add, zS_add] at start
  have fin : ∀ h', h' 57 2 = nI (i + 1) → h' 59 i = nI a → h' 60 i = nI b → h' 61 i = nI n → (∀ x y, ¬ (x = 57 ∧ y = 2) → ¬ ((x = 59 ∨ x = 60 ∨ x = 61) ∧ y = i) → h' x y = h x y) → h' 57 2 = nI (i + 1) ∧ h' 59 i = nI a ∧ h' 60 i = nI b ∧ h' 61 i = nI n ∧ zKx i h h' ∧ zKx (i + 1) (zup (zup (zup (zup h 59 i (nI a)) 60 i (nI b)) 61 i (nI n)) 57 2 (nI (i + 1))) h' := by
    intro h' e1 e2 e3 e4 e5
    refine ⟨e1, e2, e3, e4, fun x y q1 q2 => e5 x y q1 (fun e => q2 ⟨e.1, by omega⟩), fun x y q1 q2 => ?_⟩
    by_cases hq : (x = 59 ∨ x = 60 ∨ x = 61) ∧ y = i
    · obtain ⟨hx, hy⟩ := hq
      subst hy
      rcases hx with rfl | rfl | rfl
      · rw [e2, zS_zup_ne _ (by omega), zS_zup_ne _ (by omega), zS_zup_ne _ (by omega), zS_zup_same]
      · rw [e3, zS_zup_ne _ (by omega), zS_zup_ne _ (by omega), zS_zup_same]
      · rw [e4, zS_zup_ne _ (by omega), zS_zup_same]
    · rw [e5 x y q1 hq]
      unfold zup
      rw [if_neg q1, if_neg (by omega), if_neg (by omega), if_neg (by omega)]
  cases h4 : zbt tx (k + 3) 58 58 with
  | false =>
    rw [h4, if_pos rfl] at hp
    rw [h4, if_pos (by decide)] at start
    simp only [Sum.inr.injEq, Prod.mk.injEq] at hp
    obtain ⟨rfl, rfl, rfl, rfl⟩ := hp
    refine ⟨_, by rw [start, show k + 3 - k = 3 by omega], fin _ (zS_zup_same _ _ _ _) ?_ ?_ ?_ ?_⟩
    · rw [zS_zup_ne _ (by omega), zS_zup_ne _ (by omega), zS_zup_ne _ (by omega), zS_zup_same]
    · rw [zS_zup_ne _ (by omega), zS_zup_ne _ (by omega), zS_zup_same]
    · rw [zS_zup_ne _ (by omega), zS_zup_same]
    · intro x y q1 q2
      unfold zup
      rw [if_neg q1, if_neg (by omega), if_neg (by omega), if_neg (by omega)]
  | true =>
  rw [h4, if_neg (by decide)] at hp
  rw [h4, if_neg (by decide)] at start
  cases h5 : zbt tx (k + 4) 49 57 with
  | false =>
    rw [h5, if_pos rfl] at hp
    cases hp
  | true =>
  rw [h5, if_neg (by decide)] at hp
  rw [zn_dga X2 (by omega), zdga_pos (zbt_49 h5)] at start
  simp only [Option.bind_some, zpush] at start
  have X3 : zXt (zup (zup (zup (zup h 59 i (nI (zg tx k - 48))) 60 i (nI (zg tx (k + 2) - 48))) 61 i (nI 1)) 61 i (nI (zg tx (k + 4) - 48))) tx := zXt_fr X2 (zS_zup_ne _ (by omega) _ _ _) (fun j => zS_zup_ne _ (by omega) _ _ _)
  rw [zb_94_57, zS_ib _ (by omega), decide_eq_true hi, if_pos rfl, zS_cl (by omega), zS_add, zn_dig X3 (by omega)] at start
  simp only [Option.bind_some, zpush] at start
  rw [zb_94_67, zS_b0, zS_add, zS_add] at start
  cases h6 : zbt tx (k + 5) 48 57 with
  | false =>
    rw [h6, if_pos rfl] at hp
    rw [h6, if_pos (by decide)] at start
    simp only [Sum.inr.injEq, Prod.mk.injEq] at hp
    obtain ⟨rfl, rfl, rfl, rfl⟩ := hp
    refine ⟨_, by rw [start, show k + 5 - k = 5 by omega], fin _ (zS_zup_same _ _ _ _) ?_ ?_ ?_ ?_⟩
    · rw [zS_zup_ne _ (by omega), zS_zup_ne _ (by omega), zS_zup_ne _ (by omega), zS_zup_ne _ (by omega), zS_zup_same]
    · rw [zS_zup_ne _ (by omega), zS_zup_ne _ (by omega), zS_zup_ne _ (by omega), zS_zup_same]
    · rw [zS_zup_ne _ (by omega), zS_zup_same]
    · intro x y q1 q2
      unfold zup
      rw [if_neg q1, if_neg (by omega), if_neg (by omega), if_neg (by omega), if_neg (by omega)]
  | true =>
  have g4 := zbt_lt h5
  have g5 := zbt_lt h6
  rw [h6, if_neg (by decide)] at hp
  rw [h6, if_neg (by decide), zS_ib _ (by omega), decide_eq_true hi, if_pos rfl, zn_dga X3 (by omega), zdga_pos h6, zS_cl (show i < 2147483648 by omega), zS_zup_same, zS_mul] at start
  simp only [Option.bind_some, zpush] at start
  rw [zb_94_91, zS_ib _ (by omega), decide_eq_true hi, if_pos rfl, zS_cl (by omega), zS_add, zS_add] at start
  simp only [Sum.inr.injEq, Prod.mk.injEq] at hp
  obtain ⟨rfl, rfl, rfl, rfl⟩ := hp
  refine ⟨_, by rw [start, show k + 6 - k = 6 by omega], fin _ (zS_zup_same _ _ _ _) ?_ ?_ ?_ ?_⟩
  · rw [zS_zup_ne _ (by omega), zS_zup_ne _ (by omega), zS_zup_ne _ (by omega), zS_zup_ne _ (by omega), zS_zup_ne _ (by omega), zS_zup_same]
  · rw [zS_zup_ne _ (by omega), zS_zup_ne _ (by omega), zS_zup_ne _ (by omega), zS_zup_ne _ (by omega), zS_zup_same]
  · rw [zS_zup_ne _ (by omega), zS_zup_same, show 10 * (zg tx (k + 4) - 48) + (zg tx (k + 5) - 48) = 10 * (zg tx (k + 4) - 48) + zg tx (k + 5) - 48 by omega]
  · intro x y q1 q2
    unfold zup
    rw [if_neg q1, if_neg (by omega), if_neg (by omega), if_neg (by omega), if_neg (by omega), if_neg (by omega)]
