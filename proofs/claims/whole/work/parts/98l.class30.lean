/-! countAll, canPaint of the class: what every level needs. -/
def zTr (h : zHp) (m nb : Nat → Nat) (i : Nat) (p : Nat → Nat) : Prop := ∀ o, o < i → ∀ j, i ≤ j → j < 8 → zt m j = true → (nb j).testBit o = true → h 74 o = nI (p o) ∧ p o < 4
def zK4 (i : Nat) (h h' : zHp) : Prop := ∀ x j, ¬ (x = 74 ∧ i ≤ j) → h' x j = h x j
theorem zK4_rf (i : Nat) (h : zHp) : zK4 i h h := fun _ _ _ => rfl
theorem zK4_tr {i : Nat} {h h' h'' : zHp} (a : zK4 i h h') (b : zK4 i h' h'') : zK4 i h h'' := fun x j w => (b x j w).trans (a x j w)
theorem zK4_up {i : Nat} {h h' : zHp} (a : zK4 (i + 1) h h') : zK4 i h h' := fun x j w => a x j (fun e => w ⟨e.1, by omega⟩)
theorem zK4_74 {i : Nat} {h h' : zHp} {y : Int32} (a : zK4 (i + 1) (zup h 74 i y) h') : zK4 i h h' := fun x j w => by
  rw [a x j (fun e => w ⟨e.1, by omega⟩)]
  unfold zup
  rw [if_neg (by omega)]
theorem zTr_k4 {i : Nat} {h h' : zHp} {m nb p : Nat → Nat} (hT : zTr h m nb i p) (hK : zK4 i h h') : zTr h' m nb i p := fun o ho j j1 j2 j3 j4 => by
  rw [hK 74 o (by omega)]
  exact hT o ho j j1 j2 j3 j4
theorem zRP_k4 {i : Nat} {h h' : zHp} {m op nb : Nat → Nat} (hR : zRP h m op nb) (hK : zK4 i h h') : zRP h' m op nb := zRP_fr hR (fun b j x y => hK b j (by omega))
theorem zTr_s {i : Nat} {h : zHp} {m nb p : Nat → Nat} (hT : zTr h m nb i p) {v : Nat} (hv : v < 4) : zTr (zup h 74 i (nI v)) m nb (i + 1) (zu p i v) := fun o ho j j1 j2 j3 j4 => by
  by_cases hoi : o = i
  · rw [hoi, zS_zup_same, zu_same]
    exact ⟨rfl, hv⟩
  · rw [zS_zup_nk _ _ hoi, zu_ne _ hoi]
    exact hT o (by omega) j (by omega) j2 j3 j4
theorem zTr_n {i : Nat} {h : zHp} {m op nb p : Nat → Nat} (hN : zNC m op nb) (hi : i < 8) (hT : zTr h m nb i p) (ht : zt m i = false) (v : Nat) : zTr h m nb (i + 1) (zu p i v) := fun o ho j j1 j2 j3 j4 => by
  by_cases hoi : o = i
  · rw [hoi] at j4
    have := ((hN j j2 j3).2.2 i hi j4).1
    rw [ht] at this
    cases this
  · rw [zu_ne _ hoi]
    exact hT o (by omega) j (by omega) j2 j3 j4
theorem zno_later {X i j : Nat} (h : X >>> i = 0) (hj : i ≤ j) : X.testBit j = false := by
  have h1 : (X >>> i).testBit (j - i) = X.testBit j := by
    rw [Nat.testBit_shiftRight, show i + (j - i) = j by omega]
  rw [← h1, h]
  simp
theorem zTr_u {i : Nat} {h : zHp} {m op nb p : Nat → Nat} (hN : zNC m op nb) (hi : i < 8) (hT : zTr h m nb i p) (hu : nb i >>> i = 0) (v : Nat) : zTr h m nb (i + 1) (zu p i v) := fun o ho j j1 j2 j3 j4 => by
  by_cases hoi : o = i
  · rw [hoi] at j4
    have := ((hN j j2 j3).2.2 i hi j4).2
    rw [zno_later hu (by omega)] at this
    cases this
  · rw [zu_ne _ hoi]
    exact hT o (by omega) j (by omega) j2 j3 j4
theorem zn_bnd {h : zHp} {m op nb : Nat → Nat} (hR : zRP h m op nb) (hN : zNC m op nb) {i : Nat} (hi : i < 8) (ht : zt m i = true) : zM_139 [.inr 62, .inl (nI i)] h = some (some (nI (!decide (nb i >>> i = 0)).toNat), h) := by
  have h2 := (hN i hi ht).2.1
  have hle : nb i >>> i ≤ nb i := by
    rw [Nat.shiftRight_eq_div_pow]
    exact Nat.div_le_self _ _
  rw [ze_139, zS_ib _ (by omega), decide_eq_true hi, if_pos rfl, zS_cl (by omega), hR.2.2 i hi ht, zS_shr _ h2 _ hi, zS_ceq (by omega) (by omega), zS_bo0, zS_bo1]
  by_cases hu : nb i >>> i = 0
  · rw [decide_eq_true hu]
    rfl
  · rw [decide_eq_false hu]
    rfl
theorem zsv_lenc {f g : Nat → List (Nat → Nat)} : ∀ (n w : Nat), (∀ v, w ≤ v → v < w + n → (f v).length = (g v).length) → (zsv f w n).length = (zsv g w n).length := by
  intro n
  induction n with
  | zero => intro w _; rfl
  | succ n ih =>
    intro w h
    show (f w ++ zsv f (w + 1) n).length = (g w ++ zsv g (w + 1) n).length
    rw [List.length_append, List.length_append, h w (by omega) (by omega), ih (w + 1) (fun v a b => h v (by omega) (by omega))]
theorem zgs_lenc {m op nb : Nat → Nat} : ∀ (k i : Nat) (p q : Nat → Nat), (∀ o, o < i → ∀ j, i ≤ j → j < i + k → zt m j = true → (nb j).testBit o = true → p o = q o) → (zgs m op nb k i p).length = (zgs m op nb k i q).length := by
  intro k
  induction k with
  | zero => intro i p q _; rfl
  | succ k ih =>
    intro i p q h
    have hs : ∀ v o, o < i + 1 → ∀ j, i + 1 ≤ j → j < i + 1 + k → zt m j = true → (nb j).testBit o = true → zu p i v o = zu q i v o := fun v o ho j j1 j2 j3 j4 => by
      by_cases hoi : o = i
      · rw [hoi, zu_same, zu_same]
      · rw [zu_ne _ hoi, zu_ne _ hoi]
        exact h o (by omega) j (by omega) (by omega) j3 j4
    rw [zgs_s, zgs_s]
    cases ht : zt m i with
    | true =>
      rw [if_pos rfl, if_pos rfl]
      refine zsv_lenc 4 0 (fun v _ _ => ?_)
      rw [zcof_congr (p := p) (q := q) (fun j hj hb => h j hj i (by omega) (by omega) ht hb)]
      split
      · exact ih (i + 1) _ _ (hs v)
      · rfl
    | false =>
      rw [if_neg (by decide), if_neg (by decide)]
      exact ih (i + 1) _ _ (hs 0)
theorem zbits_4 : ∀ X, X < 16 → zbits X = (X.testBit 0).toNat + (X.testBit 1).toNat + (X.testBit 2).toNat + (X.testBit 3).toNat := by decide +kernel
/-- a country that binds no later one -/
theorem zgs_free {m op nb : Nat → Nat} (hN : zNC m op nb) {k i : Nat} (hik : i + (k + 1) = 8) (ht : zt m i = true) (hu : nb i >>> i = 0) (p : Nat → Nat) : (zgs m op nb (k + 1) i p).length = zbits (zcof m op nb i p) * (zgs m op nb k (i + 1) (zu p i 0)).length := by
  have hi : i < 8 := by omega
  have hX := zcof_lt hN hi ht p
  have hL : ∀ v, (if (zcof m op nb i p).testBit v = true then zgs m op nb k (i + 1) (zu p i v) else []).length = ((zcof m op nb i p).testBit v).toNat * (zgs m op nb k (i + 1) (zu p i 0)).length := fun v => by
    cases (zcof m op nb i p).testBit v with
    | false => simp
    | true =>
      rw [if_pos rfl, show true.toNat = 1 from rfl, Nat.one_mul]
      exact zgs_lenc k (i + 1) _ _ (fun o ho j j1 j2 j3 j4 => by
        by_cases hoi : o = i
        · rw [hoi] at j4
          have := ((hN j (by omega) j3).2.2 i hi j4).2
          rw [zno_later hu (by omega)] at this
          cases this
        · rw [zu_ne _ hoi, zu_ne _ hoi])
  rw [zgs_s, ht, if_pos rfl, zbits_4 _ hX]
  show ((if (zcof m op nb i p).testBit 0 = true then zgs m op nb k (i + 1) (zu p i 0) else []) ++ ((if (zcof m op nb i p).testBit 1 = true then zgs m op nb k (i + 1) (zu p i 1) else []) ++ ((if (zcof m op nb i p).testBit 2 = true then zgs m op nb k (i + 1) (zu p i 2) else []) ++ ((if (zcof m op nb i p).testBit 3 = true then zgs m op nb k (i + 1) (zu p i 3) else []) ++ [])))).length = _
  rw [List.length_append, List.length_append, List.length_append, List.length_append, hL, hL, hL, hL, Nat.add_mul, Nat.add_mul, Nat.add_mul]
  simp only [List.length_nil]
  omega
/-- a level of countAll; a level of canPaint -/
def zLC (m op nb : Nat → Nat) (k : Nat) (f : List zV → zHp → zRs) : Prop := ∀ (i : Nat) (p : Nat → Nat) (h : zHp), i + k = 8 → zRP h m op nb → zTr h m nb i p → ∃ h', f [.inr 62, .inl (nI i)] h = some (some (nI (zgs m op nb k i p).length), h') ∧ zK4 i h h'
def zne (L : List (Nat → Nat)) : Bool := decide (0 < L.length)
theorem zne_app (A B : List (Nat → Nat)) : zne (A ++ B) = (zne A || zne B) := by
  unfold zne
  rw [List.length_append, Bool.eq_iff_iff]
  simp
  omega
def zLN (m op nb : Nat → Nat) (k : Nat) (f : List zV → zHp → zRs) : Prop := ∀ (i : Nat) (p : Nat → Nat) (h : zHp), i + k = 8 → zRP h m op nb → zTr h m nb i p → ∃ h', f [.inr 62, .inl (nI i)] h = some (some (nI (zne (zgs m op nb k i p)).toNat), h') ∧ zK4 i h h'
theorem zqc_141 {m op nb : Nat → Nat} : zLC m op nb 0 zM_141 := by
  intro i p h hik hR hT
  have hi : i = 8 := by omega
  subst hi
  refine ⟨h, ?_, zK4_rf _ _⟩
  rw [ze_141, if_neg (by decide)]
  rfl
theorem zqn_153 {m op nb : Nat → Nat} : zLN m op nb 0 zM_153 := by
  intro i p h hik hR hT
  have hi : i = 8 := by omega
  subst hi
  refine ⟨h, ?_, zK4_rf _ _⟩
  rw [ze_153, if_neg (by decide), zS_bo1, if_pos rfl]
  rfl
