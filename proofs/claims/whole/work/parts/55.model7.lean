/-! A border's new length. -/
def zm1 (m : Nat → Nat) (a b len : Nat) : Nat → Nat := zu (zu m (40 + 8 * a + b) len) (40 + 8 * b + a) len
def zsf (m : Nat → Nat) (p x : Nat) : Nat → Nat := fun j => if 104 + p ≤ j ∧ j < 104 + x then m (j + 1) else m j
def zers (m : Nat → Nat) (p : Nat) : Nat → Nat := zsf (zu m 132 (znb m - 1)) p (znb m - 1)
def zfind (m : Nat → Nat) (c : Nat) : Nat → Nat → Nat
  | k, 0 => k
  | k, n + 1 => if zod m k = c then k else zfind m c (k + 1) n
theorem zfind_eq {m : Nat → Nat} {c p : Nat} (hp : zod m p = c) : ∀ (n k : Nat), k ≤ p → p < k + n → (∀ j, k ≤ j → j < p → zod m j ≠ c) → zfind m c k n = p := by
  intro n
  induction n with
  | zero => intro k h1 h2; omega
  | succ n ih =>
    intro k h1 h2 h3
    unfold zfind
    by_cases hk : k = p
    · subst hk
      rw [if_pos hp]
    · rw [if_neg (h3 k (Nat.le_refl _) (by omega))]
      exact ih (k + 1) (by omega) (by omega) (fun j a b => h3 j (by omega) b)
/-- the row when a border gets a length -/
def zly (m : Nat → Nat) (a b len : Nat) : Nat → Nat :=
  if zln m a b = 0 then (if len = 0 then zm1 m a b len else zu (zu (zm1 m a b len) (104 + znb m) (zcd a b)) 132 (znb m + 1))
  else if len = 0 then zers (zm1 m a b len) (zfind m (zcd a b) 0 28) else zm1 m a b len
theorem zm1_un {m : Nat → Nat} {a b len k : Nat} (ha : a < 8) (hb : b < 8) (hk : k < 40 ∨ 104 ≤ k) : zm1 m a b len k = m k := by
  unfold zm1 zu
  rw [if_neg (by omega), if_neg (by omega)]
theorem zm1_ln {m : Nat → Nat} {a b len x y : Nat} (ha : a < 8) (hb : b < 8) (hx : x < 8) (hy : y < 8) : zln (zm1 m a b len) x y = if (x = a ∧ y = b) ∨ (x = b ∧ y = a) then len else zln m x y := by
  unfold zm1 zln zu
  by_cases hq : (x = a ∧ y = b) ∨ (x = b ∧ y = a)
  · rw [if_pos hq]
    by_cases hz : x = b ∧ y = a
    · rw [if_pos (by omega)]
    · rw [if_neg (by omega), if_pos (by omega)]
  · rw [if_neg hq, if_neg (by omega), if_neg (by omega)]
/-- what a new length leaves, but the order -/
theorem zly_un {m : Nat → Nat} {a b len k : Nat} (ha : a < 8) (hb : b < 8) (hn : znb m ≤ 28) (hk : k < 40 ∨ 133 ≤ k) : zly m a b len k = m k := by
  unfold zly
  split
  · split
    · exact zm1_un ha hb (by omega)
    · rename_i h1 h2
      by_cases hx : znb m = 28
      · rw [zu_ne _ (by omega)]
        by_cases hy : k = 104 + znb m
        · omega
        · rw [zu_ne _ hy]
          exact zm1_un ha hb (by omega)
      · rw [zu_ne _ (by omega), zu_ne _ (by omega)]
        exact zm1_un ha hb (by omega)
  · split
    · unfold zers zsf
      have h5 : znb (zm1 m a b len) = znb m := zm1_un ha hb (by omega)
      rw [h5, if_neg (by omega), zu_ne _ (by omega)]
      exact zm1_un ha hb (by omega)
    · exact zm1_un ha hb (by omega)
theorem zly_ln {m : Nat → Nat} {a b len x y : Nat} (ha : a < 8) (hb : b < 8) (hx : x < 8) (hy : y < 8) : zln (zly m a b len) x y = if (x = a ∧ y = b) ∨ (x = b ∧ y = a) then len else zln m x y := by
  rw [← zm1_ln (m := m) (len := len) ha hb hx hy]
  unfold zly
  split
  · split
    · rfl
    · unfold zln
      rw [zu_ne _ (by omega), zu_ne _ (by omega)]
  · split
    · unfold zers zsf zln
      dsimp only
      rw [if_neg (by omega), zu_ne _ (by omega)]
    · rfl
theorem zI_ly {m : Nat → Nat} (h : zI m) {a b len : Nat} (ha : a < 8) (hb : b < 8) (hab : a ≠ b) (hl : len ≤ 99) (ht : 0 < len → zof m a 0 = 1 ∧ zof m b 0 = 1) : zI (zly m a b len) := by
  obtain ⟨⟨b1, b2, b3, b4, b5⟩, i1, i2, i3, i4, i5, i6, hO⟩ := h
  obtain ⟨o1, o2, o3⟩ := id hO
  have hun : ∀ k, (k < 40 ∨ 133 ≤ k) → zly m a b len k = m k := fun k hk => zly_un ha hb b2 hk
  have hof : ∀ d w, d < 8 → w < 5 → zof (zly m a b len) d w = zof m d w := fun d w hd hw => hun _ (by omega)
  have hbd : ∀ x y, x < 4 → y < 4 → zbd (zly m a b len) x y = zbd m x y := fun x y hx hy => hun _ (by omega)
  have hev : zev8 (zly m a b len) = zev8 m := hun _ (by omega)
  have hln : ∀ x y, x < 8 → y < 8 → zln (zly m a b len) x y = if (x = a ∧ y = b) ∨ (x = b ∧ y = a) then len else zln m x y := fun x y hx hy => zly_ln ha hb hx hy
  obtain ⟨lo0, hi0, c1, c2, c3, c4⟩ := zcd_lh ha hb hab
  have hord : znb (zly m a b len) ≤ 28 ∧ zOd (zly m a b len) := by
    by_cases hw : zln m a b = 0
    · by_cases hz : len = 0
      · have e1 : zly m a b len = zm1 m a b len := by unfold zly; rw [if_pos hw, if_pos hz]
        have hnb : znb (zly m a b len) = znb m := by rw [e1]; exact zm1_un ha hb (by omega)
        have hod : ∀ k, zod (zly m a b len) k = zod m k := fun k => by rw [e1]; exact zm1_un ha hb (by omega)
        have hln2 : ∀ x y, x < 8 → y < 8 → zln (zly m a b len) x y = zln m x y := by
          intro x y hx hy
          rw [hln x y hx hy]
          split
          · rename_i hq
            rcases hq with ⟨rfl, rfl⟩ | ⟨rfl, rfl⟩
            · omega
            · rw [i3 _ _ hx hy]; omega
          · rfl
        refine ⟨by omega, fun k hk => ?_, fun j k hj hk he => ?_, fun lo hi q1 q2 q3 => ?_⟩
        · obtain ⟨lo, hi, p1, p2, p3, p4⟩ := o1 k (by omega)
          exact ⟨lo, hi, p1, p2, by rw [hod]; exact p3, by rw [hln2 lo hi (by omega) p2]; exact p4⟩
        · rw [hod, hod] at he
          exact o2 j k (by omega) (by omega) he
        · rw [hln2 lo hi (by omega) q2] at q3
          obtain ⟨k, p1, p2⟩ := o3 lo hi q1 q2 q3
          exact ⟨k, by omega, by rw [hod]; exact p2⟩
      · have e1 : zly m a b len = zu (zu (zm1 m a b len) (104 + znb m) (zcd a b)) 132 (znb m + 1) := by unfold zly; rw [if_pos hw, if_neg hz]
        have h28 := zroom28 hO i3 ha hb hab hw
        have hnb : znb (zly m a b len) = znb m + 1 := by rw [e1]; exact zu_same _ _ _
        have hod : ∀ k, k < znb m → zod (zly m a b len) k = zod m k := fun k hk => by
          rw [e1]
          unfold zod
          rw [zu_ne _ (by omega), zu_ne _ (by omega)]
          exact zm1_un ha hb (by omega)
        have hodn : zod (zly m a b len) (znb m) = zcd a b := by
          rw [e1]
          unfold zod
          rw [zu_ne _ (by omega), zu_same]
        have hfresh : ∀ k, k < znb m → zod m k ≠ zcd a b := by
          intro k hk he
          obtain ⟨lo, hi, p1, p2, p3, p4⟩ := o1 k hk
          rw [p3] at he
          rcases (zcd_eq ha hb hab p1 p2).mp he.symm with ⟨rfl, rfl⟩ | ⟨rfl, rfl⟩
          · omega
          · rw [i3 _ _ (by omega) (by omega)] at p4
            omega
        refine ⟨by omega, fun k hk => ?_, fun j k hj hk he => ?_, fun lo hi q1 q2 q3 => ?_⟩
        · by_cases hkn : k = znb m
          · subst hkn
            refine ⟨lo0, hi0, c1, c2, by rw [hodn]; exact c3, ?_⟩
            rw [hln lo0 hi0 (by omega) c2, if_pos (by omega)]
            omega
          · obtain ⟨lo, hi, p1, p2, p3, p4⟩ := o1 k (by omega)
            refine ⟨lo, hi, p1, p2, by rw [hod k (by omega)]; exact p3, ?_⟩
            rw [hln lo hi (by omega) p2]
            split
            · omega
            · exact p4
        · by_cases hjn : j = znb m
          · by_cases hkn : k = znb m
            · omega
            · rw [hjn, hodn, hod k (by omega)] at he
              exact absurd he.symm (hfresh k (by omega))
          · by_cases hkn : k = znb m
            · rw [hkn, hodn, hod j (by omega)] at he
              exact absurd he (hfresh j (by omega))
            · rw [hod j (by omega), hod k (by omega)] at he
              exact o2 j k (by omega) (by omega) he
        · by_cases hq : (lo = a ∧ hi = b) ∨ (lo = b ∧ hi = a)
          · refine ⟨znb m, by omega, ?_⟩
            rw [hodn]
            exact (zcd_eq ha hb hab q1 q2).mpr (by omega)
          · rw [hln lo hi (by omega) q2, if_neg hq] at q3
            obtain ⟨k, p1, p2⟩ := o3 lo hi q1 q2 q3
            exact ⟨k, by omega, by rw [hod k p1]; exact p2⟩
    · by_cases hz : len = 0
      · have e1 : zly m a b len = zers (zm1 m a b len) (zfind m (zcd a b) 0 28) := by unfold zly; rw [if_neg hw, if_pos hz]
        have hpos : 0 < zln m lo0 hi0 := by
          rcases c4 with ⟨rfl, rfl⟩ | ⟨rfl, rfl⟩
          · omega
          · rw [i3 _ _ (by omega) (by omega)]; omega
        obtain ⟨p, hp1, hp2⟩ := o3 lo0 hi0 c1 c2 hpos
        have hp3 : zfind m (zcd a b) 0 28 = p := zfind_eq (by rw [hp2, c3]) 28 0 (by omega) (by omega) (fun j _ hj he => by
          have := o2 j p (by omega) hp1 (by rw [he, hp2, c3])
          omega)
        rw [hp3] at e1
        have hn1 : znb (zm1 m a b len) = znb m := zm1_un ha hb (by omega)
        have hnb : znb (zly m a b len) = znb m - 1 := by
          rw [e1]
          unfold zers zsf
          show (if 104 + p ≤ 132 ∧ 132 < 104 + (znb (zm1 m a b len) - 1) then _ else zu (zm1 m a b len) 132 (znb (zm1 m a b len) - 1) 132) = _
          rw [if_neg (by omega), zu_same, hn1]
        have hod : ∀ k, k < znb m - 1 → zod (zly m a b len) k = if k < p then zod m k else zod m (k + 1) := by
          intro k hk
          rw [e1]
          unfold zers zsf zod
          dsimp only
          rw [hn1]
          by_cases hkp : k < p
          · rw [if_neg (by omega), if_pos hkp, zu_ne _ (by omega)]
            exact zm1_un ha hb (by omega)
          · rw [if_pos (by omega), if_neg hkp, zu_ne _ (by omega)]
            exact zm1_un ha hb (by omega)
        refine ⟨by omega, fun k hk => ?_, fun j k hj hk he => ?_, fun lo hi q1 q2 q3 => ?_⟩
        · rw [hnb] at hk
          have src : ∃ k', k' < znb m ∧ k' ≠ p ∧ zod (zly m a b len) k = zod m k' := by
            rw [hod k hk]
            by_cases hkp : k < p
            · exact ⟨k, by omega, by omega, by rw [if_pos hkp]⟩
            · exact ⟨k + 1, by omega, by omega, by rw [if_neg hkp]⟩
          obtain ⟨k', s1, s2, s3⟩ := src
          obtain ⟨lo, hi, p1, p2, p3, p4⟩ := o1 k' s1
          refine ⟨lo, hi, p1, p2, by rw [s3]; exact p3, ?_⟩
          rw [hln lo hi (by omega) p2, if_neg (fun hq => ?_)]
          · exact p4
          · have h9 := (zcd_eq ha hb hab p1 p2).mpr (by omega)
            have := o2 k' p s1 hp1 (by rw [p3, ← h9, hp2, c3])
            omega
        · rw [hnb] at hj hk
          rw [hod j hj, hod k hk] at he
          split at he <;> split at he
          · exact o2 j k (by omega) (by omega) he
          · have := o2 j (k + 1) (by omega) (by omega) he
            omega
          · have := o2 (j + 1) k (by omega) (by omega) he
            omega
          · have := o2 (j + 1) (k + 1) (by omega) (by omega) he
            omega
        · have hq : ¬ ((lo = a ∧ hi = b) ∨ (lo = b ∧ hi = a)) := by
            intro hq
            rw [hln lo hi (by omega) q2, if_pos hq] at q3
            omega
          rw [hln lo hi (by omega) q2, if_neg hq] at q3
          obtain ⟨k, p1, p2⟩ := o3 lo hi q1 q2 q3
          have hkp : k ≠ p := by
            intro e
            subst e
            rw [hp2, ← c3] at p2
            exact hq (by have := (zcd_eq ha hb hab q1 q2).mp p2; omega)
          by_cases hlt : k < p
          · exact ⟨k, by omega, by rw [hod k (by omega), if_pos hlt]; exact p2⟩
          · refine ⟨k - 1, by omega, ?_⟩
            rw [hod (k - 1) (by omega), if_neg (by omega), show k - 1 + 1 = k by omega]
            exact p2
      · have e1 : zly m a b len = zm1 m a b len := by unfold zly; rw [if_neg hw, if_neg hz]
        have hnb : znb (zly m a b len) = znb m := by rw [e1]; exact zm1_un ha hb (by omega)
        have hod : ∀ k, zod (zly m a b len) k = zod m k := fun k => by rw [e1]; exact zm1_un ha hb (by omega)
        have hws : 0 < zln m b a := by rw [i3 b a hb ha]; omega
        refine ⟨by omega, fun k hk => ?_, fun j k hj hk he => ?_, fun lo hi q1 q2 q3 => ?_⟩
        · obtain ⟨lo, hi, p1, p2, p3, p4⟩ := o1 k (by omega)
          refine ⟨lo, hi, p1, p2, by rw [hod]; exact p3, ?_⟩
          rw [hln lo hi (by omega) p2]
          split
          · omega
          · exact p4
        · rw [hod, hod] at he
          exact o2 j k (by omega) (by omega) he
        · have q4 : 0 < zln m lo hi := by
            rw [hln lo hi (by omega) q2] at q3
            split at q3
            · rename_i hq
              rcases hq with ⟨rfl, rfl⟩ | ⟨rfl, rfl⟩ <;> omega
            · exact q3
          obtain ⟨k, p1, p2⟩ := o3 lo hi q1 q2 q4
          exact ⟨k, by omega, by rw [hod]; exact p2⟩
  refine ⟨⟨by omega, hord.1, fun d hd => ?_, fun x y hx hy => ?_, fun x y hx hy => by rw [hbd x y hx hy]; exact b5 x y hx hy⟩, fun d hd hq => ?_, fun d hd hq => ?_, fun x y hx hy => ?_, fun x hx => ?_, fun x y hx hy hq => ?_, fun x y hx hy => by rw [hbd x y hx hy, hbd y x hy hx]; exact i6 x y hx hy, hord.2⟩
  · rw [hof d 0 hd (by omega), hof d 1 hd (by omega), hof d 2 hd (by omega), hof d 3 hd (by omega), hof d 4 hd (by omega)]
    exact b3 d hd
  · rw [hln x y hx hy]
    have := b4 x y hx hy
    split <;> omega
  · rw [hev] at hq
    rw [hof d 0 hd (by omega)]
    exact i1 d hd hq
  · rw [hof d 4 hd (by omega)] at hq
    rw [hof d 0 hd (by omega)]
    exact i2 d hd hq
  · rw [hln x y hx hy, hln y x hy hx, i3 x y hx hy]
    by_cases hq : (x = a ∧ y = b) ∨ (x = b ∧ y = a)
    · rw [if_pos hq, if_pos (by omega)]
    · rw [if_neg hq, if_neg (by omega)]
  · rw [hln x x hx hx, if_neg (by omega)]
    exact i4 x hx
  · rw [hof x 0 hx (by omega)]
    rw [hln x y hx hy] at hq
    split at hq
    · rename_i hz
      have := ht hq
      rcases hz with ⟨rfl, rfl⟩ | ⟨rfl, rfl⟩
      · exact this.1
      · exact this.2
    · exact i5 x y hx hy hq
