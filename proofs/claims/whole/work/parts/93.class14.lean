/-! A border's new length in the class; setBorder, give. -/
theorem zSr_bd {h g : zHp} {m m' : Nat → Nat} (hS : zSr h 1 m) (he : zev8 m ≤ 8) (hun : ∀ k, (k < 40 ∨ 133 ≤ k) → m' k = m k) (hf : ∀ b j, 1 ≤ b → b < 6 → g b j = h b j) (h6 : g 6 0 = nI (znb m')) (hk : ∀ k, k < znb m' → g 7 k = nI (zod m' k / 10) ∧ g 8 k = nI (zod m' k % 10) ∧ g 9 k = nI (zln m' (zod m' k / 10) (zod m' k % 10))) : zSr g 1 m' := by
  obtain ⟨⟨s1, s2, s3⟩, s4, s5, s6, s7⟩ := hS
  have hof : ∀ d w, d < 8 → w < 5 → zof m' d w = zof m d w := fun d w hd hw => hun _ (by omega)
  have hev : zev8 m' = zev8 m := hun _ (by omega)
  have ht : ∀ d, zt m' d = zt m d := fun d => by
    by_cases hd : d < 8
    · unfold zt
      rw [hev, hof d 0 hd (by omega)]
    · rw [zt_no (show zev8 m ≤ d by omega), zt_no (show zev8 m' ≤ d by omega)]
  have hst0 : zst m' 0 = zst m 0 := by
    apply Nat.eq_of_testBit_eq
    intro i
    rw [zst_bit, zst_bit, ht]
  have hst1 : zst m' 1 = zst m 1 := by
    apply Nat.eq_of_testBit_eq
    intro i
    rw [zst1_bit, zst1_bit, ht]
    by_cases hd : i < 8
    · rw [hof i 4 hd (by omega)]
    · rw [zt_no (show zev8 m ≤ i by omega)]
      rfl
  refine ⟨⟨by rw [hf _ _ (by omega) (by omega), s1, hev], by rw [hf _ _ (by omega) (by omega), s2, hst0], by rw [hf _ _ (by omega) (by omega), s3, hst1]⟩, fun d hd htd => ?_, fun a ha => ?_, h6, hk⟩
  · rw [ht] at htd
    obtain ⟨x1, x2, x3⟩ := s4 d hd htd
    rw [hof d 1 hd (by omega), hof d 2 hd (by omega), hof d 3 hd (by omega)]
    exact ⟨by rw [hf _ _ (by omega) (by omega)]; exact x1, by rw [hf _ _ (by omega) (by omega)]; exact x2, by rw [hf _ _ (by omega) (by omega)]; exact x3⟩
  · have : zfbs m' a = zfbs m a := by
      apply Nat.eq_of_testBit_eq
      intro i
      rw [zfbs_bits, zfbs_bits, show zbd m' a i = zbd m a i from hun _ (by omega)]
    rw [this, hf _ _ (by omega) (by omega)]
    exact s5 a ha
/-- the rows of the borders one down from p on, up to x -/
def zshc (h : zHp) (p x : Nat) : zHp := fun b j => if (b = 7 ∨ b = 8 ∨ b = 9) ∧ p ≤ j ∧ j < x then h b (j + 1) else h b j
theorem zshc_0 (h : zHp) (p : Nat) : zshc h p p = h := by
  funext b j
  unfold zshc
  rw [if_neg (by omega)]
theorem zshc_step (h : zHp) {p x : Nat} (hp : p ≤ x) : zup (zup (zup (zshc h p x) 7 x (zshc h p x 7 (x + 1))) 8 x (zshc h p x 8 (x + 1))) 9 x (zshc h p x 9 (x + 1)) = zshc h p (x + 1) := by
  have hr : ∀ b, zshc h p x b (x + 1) = h b (x + 1) := fun b => by
    unfold zshc
    rw [if_neg (by omega)]
  rw [hr, hr, hr]
  funext b j
  unfold zup
  by_cases h9 : b = 9 ∧ j = x
  · rw [if_pos h9]
    unfold zshc
    rw [if_pos (by omega), h9.1, h9.2]
  · rw [if_neg h9]
    by_cases h8 : b = 8 ∧ j = x
    · rw [if_pos h8]
      unfold zshc
      rw [if_pos (by omega), h8.1, h8.2]
    · rw [if_neg h8]
      by_cases h7 : b = 7 ∧ j = x
      · rw [if_pos h7]
        unfold zshc
        rw [if_pos (by omega), h7.1, h7.2]
      · rw [if_neg h7]
        unfold zshc
        by_cases hq : (b = 7 ∨ b = 8 ∨ b = 9) ∧ p ≤ j ∧ j < x
        · rw [if_pos hq, if_pos (by omega)]
        · rw [if_neg hq, if_neg (by omega)]
theorem zn_rm1 (h : zHp) {p N : Nat} (hN : N ≤ 28) (h6 : h 6 0 = nI N) (d1 : Option zV) : ∀ (n x : Nat), x + n + 1 = N → p ≤ x → zr_87 15 [some (.inr 6), d1, some (.inl (nI x))] [] (zshc h p x) = some (none, zup (zshc h p (N - 1)) 6 0 (nI (N - 1))) := by
  have g6 : ∀ x, zshc h p x 6 0 = nI N := fun x => by
    unfold zshc
    rw [if_neg (by omega), h6]
  intro n
  induction n with
  | zero =>
    intro x hx hp
    rw [zb_87_15, g6, zS_add, zS_cge (by omega) (by omega), decide_eq_true (by omega), if_pos rfl, zS_sub (by omega)]
    rw [show N - 1 = x by omega]
  | succ n ih =>
    intro x hx hp
    rw [zb_87_15, g6, zS_add, zS_cge (by omega) (by omega), decide_eq_false (by omega), if_neg (by decide), zS_ib _ (show x + 1 < 2147483648 by omega), zS_ib _ (show x < 2147483648 by omega), decide_eq_true (show x + 1 < 28 by omega), decide_eq_true (show x < 28 by omega), if_pos rfl, if_pos rfl, if_pos rfl, if_pos rfl, if_pos rfl, if_pos rfl, zS_cl (show x + 1 < 2147483648 by omega), zS_cl (show x < 2147483648 by omega), zS_zup_ne (zshc h p x) (show (8 : Nat) ≠ 7 by omega), zS_zup_ne _ (show (9 : Nat) ≠ 8 by omega), zS_zup_ne (zshc h p x) (show (9 : Nat) ≠ 7 by omega), zshc_step h hp]
    exact ih (x + 1) (by omega) (by omega)
theorem zn_rm {h : zHp} {p N : Nat} (hN : N ≤ 28) (h6 : h 6 0 = nI N) (hp : p < N) : zM_87 [.inr 6, .inl (nI p)] h = some (none, zup (zshc h p (N - 1)) 6 0 (nI (N - 1))) := by
  have e1 := zn_rm1 h hN h6 (some (.inl (nI p))) (N - 1 - p) p (by omega) (Nat.le_refl _)
  rw [zshc_0] at e1
  rw [ze_87, zS_clt (by omega) (by omega), decide_eq_false (by omega), if_neg (by decide), h6, zS_clt (by omega) (by omega), decide_eq_true hp, if_pos rfl]
  exact e1
theorem zly_lk {m : Nat → Nat} {a b len lo hi : Nat} (ha : a < 8) (hb : b < 8) (hab : a ≠ b) (p1 : lo < hi) (p2 : hi < 8) : zln (zly m a b len) lo hi = if zcd a b = 10 * lo + hi then len else zln m lo hi := by
  rw [zly_ln ha hb (by omega) p2]
  by_cases hq : zcd a b = 10 * lo + hi
  · have := (zcd_eq ha hb hab p1 p2).mp hq
    rw [if_pos hq, if_pos (by omega)]
  · rw [if_neg hq, if_neg (fun e => hq ((zcd_eq ha hb hab p1 p2).mpr (by omega)))]
theorem zn_put {h : zHp} {m : Nat → Nat} (hS : zSr h 1 m) (hI : zI m) {a b len : Nat} (ha : a < 8) (hb : b < 8) (hab : a ≠ b) (hl : len ≤ 99) : ∃ g, zM_88 [.inr 6, .inl (nI a), .inl (nI b), .inl (nI len)] h = some (none, g) ∧ zSr g 1 (zly m a b len) ∧ ∀ x j, x < 6 ∨ 10 ≤ x → g x j = h x j := by
  have hn := zB_nb hI.1
  have he := zB_ev hI.1
  have hun : ∀ k, (k < 40 ∨ 133 ≤ k) → zly m a b len k = m k := fun k hk => zly_un ha hb hn hk
  have h6 : h 6 0 = nI (znb m) := hS.2.2.2.1
  have s7 : ∀ k, k < znb m → h 7 k = nI (zod m k / 10) ∧ h 8 k = nI (zod m k % 10) ∧ h 9 k = nI (zln m (zod m k / 10) (zod m k % 10)) := hS.2.2.2.2
  obtain ⟨hB, i1, i2, i3, i4, i5, i6, hO⟩ := id hI
  obtain ⟨o1, o2, o3⟩ := id hO
  have start := ze_88 (nI a) (nI b) (nI len) h
  rw [zn_plc hS hI ha hb hab] at start
  simp only [Option.bind_some, zpush] at start
  rw [zb_88_6, zS_cne (by omega) (by omega)] at start
  have hlk : ∀ k, k < znb m → zln (zly m a b len) (zod m k / 10) (zod m k % 10) = if zcd a b = zod m k then len else zln m (zod m k / 10) (zod m k % 10) := fun k hk => by
    obtain ⟨lo, hi, p1, p2, p3, p4⟩ := o1 k hk
    rw [show zod m k / 10 = lo by omega, show zod m k % 10 = hi by omega, zly_lk ha hb hab p1 p2, p3]
  by_cases hz : len = 0
  · rw [decide_eq_true hz, if_neg (by decide)] at start
    rcases zplc_I hI ha hb hab with ⟨h0, h1⟩ | ⟨h0, h1, h2, h3⟩
    · rw [h1, ze_87, zS_clt (by omega) (by omega), decide_eq_false (by omega), if_neg (by decide), h6, zS_clt (by omega) (by omega), decide_eq_false (by omega), if_neg (by decide)] at start
      simp only [Option.bind_some, zpush] at start
      rw [zb_88_18] at start
      have e1 : zly m a b len = zm1 m a b len := by unfold zly; rw [if_pos h0, if_pos hz]
      have hnb : znb (zly m a b len) = znb m := by rw [e1]; exact zm1_un ha hb (by omega)
      have hod : ∀ k, zod (zly m a b len) k = zod m k := fun k => by rw [e1]; exact zm1_un ha hb (by omega)
      refine ⟨h, start, zSr_bd hS he hun (fun _ _ _ _ => rfl) (by rw [hnb, h6]) (fun k hk => ?_), fun _ _ _ => rfl⟩
      rw [hnb] at hk
      rw [hod, hlk k hk]
      obtain ⟨x1, x2, x3⟩ := s7 k hk
      refine ⟨x1, x2, ?_⟩
      rw [x3]
      by_cases hq : zcd a b = zod m k
      · rw [if_pos hq]
        obtain ⟨lo, hi, p1, p2, p3, p4⟩ := o1 k hk
        rcases (zcd_eq ha hb hab p1 p2).mp (by omega) with ⟨q1, q2⟩ | ⟨q1, q2⟩
        · rw [show zod m k / 10 = a by omega, show zod m k % 10 = b by omega, h0, hz]
        · rw [show zod m k / 10 = b by omega, show zod m k % 10 = a by omega, i3 b a hb ha, h0, hz]
      · rw [if_neg hq]
    · rw [zn_rm hn h6 h1] at start
      simp only [Option.bind_some, zpush] at start
      rw [zb_88_18] at start
      have e1 : zly m a b len = zers (zm1 m a b len) (zplc m (zcd a b) 0 (znb m)) := by unfold zly; rw [if_neg (by omega), if_pos hz, h3]
      have em : znb (zm1 m a b len) = znb m := zm1_un ha hb (by omega)
      have hnb : znb (zly m a b len) = znb m - 1 := by
        rw [e1]
        show (if 104 + zplc m (zcd a b) 0 (znb m) ≤ 132 ∧ 132 < 104 + (znb (zm1 m a b len) - 1) then _ else zu (zm1 m a b len) 132 (znb (zm1 m a b len) - 1) 132) = _
        rw [em, if_neg (by omega), zu_same]
      generalize zplc m (zcd a b) 0 (znb m) = p at start h1 h2 h3 e1
      have hod : ∀ k, k < znb m - 1 → zod (zly m a b len) k = if p ≤ k then zod m (k + 1) else zod m k := fun k hk => by
        rw [e1]
        unfold zod zers zsf
        rw [em]
        by_cases hq : p ≤ k
        · rw [if_pos hq, if_pos (by omega), zu_ne _ (by omega), zm1_un ha hb (by omega)]
          rfl
        · rw [if_neg hq, if_neg (by omega), zu_ne _ (by omega), zm1_un ha hb (by omega)]
      have hz6 : ∀ b j, b ≠ 6 → zup (zshc h p (znb m - 1)) 6 0 (nI (znb m - 1)) b j = zshc h p (znb m - 1) b j := fun b j hb => zS_zup_ne _ hb _ _ _
      refine ⟨_, start, zSr_bd hS he hun (fun b j x y => ?_) (by rw [hnb, zS_zup_same]) (fun k hk => ?_), fun b j hb => ?_⟩
      · rw [hz6 _ _ (by omega)]
        unfold zshc
        rw [if_neg (by omega)]
      · rw [hnb] at hk
        rw [hod k hk, hz6 _ _ (by omega), hz6 _ _ (by omega), hz6 _ _ (by omega)]
        unfold zshc
        by_cases hq : p ≤ k
        · rw [if_pos hq, if_pos (by omega), if_pos (by omega), if_pos (by omega), hlk (k + 1) (by omega)]
          obtain ⟨x1, x2, x3⟩ := s7 (k + 1) (by omega)
          refine ⟨x1, x2, ?_⟩
          rw [x3, if_neg (fun e => ?_)]
          have := o2 p (k + 1) h1 (by omega) (by rw [h2, e])
          omega
        · rw [if_neg hq, if_neg (by omega), if_neg (by omega), if_neg (by omega), hlk k (by omega)]
          obtain ⟨x1, x2, x3⟩ := s7 k (by omega)
          refine ⟨x1, x2, ?_⟩
          rw [x3, if_neg (fun e => ?_)]
          have := o2 p k h1 (by omega) (by rw [h2, e])
          omega
      · rw [hz6 _ _ (by omega)]
        unfold zshc
        rw [if_neg (by omega)]
  · have hpl : zplc m (zcd a b) 0 (znb m) ≤ znb m := by
      rcases zplc_I hI ha hb hab with ⟨_, e⟩ | ⟨_, e, _⟩ <;> omega
    rw [decide_eq_false hz, if_pos (by decide), h6, zS_cge (by omega) (by omega)] at start
    rcases zplc_I hI ha hb hab with ⟨h0, h1⟩ | ⟨h0, h1, h2, h3⟩
    · have h28 := zroom28 hO i3 ha hb hab h0
      have e1 : zly m a b len = zu (zu (zm1 m a b len) (104 + znb m) (zcd a b)) 132 (znb m + 1) := by unfold zly; rw [if_pos h0, if_neg hz]
      have hnb : znb (zly m a b len) = znb m + 1 := by rw [e1]; exact zu_same _ _ _
      have hod : ∀ k, k < znb m → zod (zly m a b len) k = zod m k := fun k hk => by
        rw [e1]
        unfold zod
        rw [zu_ne _ (by omega), zu_ne _ (by omega)]
        exact zm1_un ha hb (by omega)
      have hodn : zod (zly m a b len) (znb m) = zcd a b := by
        rw [e1]
        unfold zod
        rw [zu_ne _ (by omega), zu_same]
      have r1 : ∀ v, zup h 7 (znb m) v 6 0 = nI (znb m) := fun v => by rw [zS_zup_ne _ (by omega), h6]
      have r2 : ∀ v w, zup (zup h 7 (znb m) v) 8 (znb m) w 6 0 = nI (znb m) := fun v w => by rw [zS_zup_ne _ (by omega), r1]
      have r3 : ∀ v w u, zup (zup (zup h 7 (znb m) v) 8 (znb m) w) 9 (znb m) u 6 0 = nI (znb m) := fun v w u => by rw [zS_zup_ne _ (by omega), r2]
      rw [h1, decide_eq_true (Nat.le_refl _), if_pos rfl, zS_cge (by omega) (by omega), decide_eq_false (show ¬ 28 ≤ znb m by omega), if_neg (by decide), zS_cl (show znb m < 2147483648 by omega), r1, zS_cl (show znb m < 2147483648 by omega), r2, zS_cl (show znb m < 2147483648 by omega), r3, zS_ib _ (show znb m < 2147483648 by omega), decide_eq_true (show znb m < 28 by omega), if_pos rfl, if_pos rfl, if_pos rfl, zmin_nI ha hb, zmax_nI ha hb, zS_add] at start
      obtain ⟨lo, hi, c1, c2, c3, c4⟩ := zcd_lh ha hb hab
      have elo : (if a < b then a else b) = lo := by
        split <;> omega
      have ehi : (if a < b then b else a) = hi := by
        split <;> omega
      rw [elo, ehi] at start
      refine ⟨_, start, zSr_bd hS he hun (fun b j x y => ?_) (by rw [hnb, zS_zup_same]) (fun k hk => ?_), fun b j hb => ?_⟩
      · rw [zS_zup_ne _ (by omega), zS_zup_ne _ (by omega), zS_zup_ne _ (by omega), zS_zup_ne _ (by omega)]
      · rw [hnb] at hk
        by_cases hq : k = znb m
        · subst hq
          rw [hodn, c3, show (10 * lo + hi) / 10 = lo by omega, show (10 * lo + hi) % 10 = hi by omega, zly_lk ha hb hab c1 c2, if_pos c3]
          refine ⟨?_, ?_, ?_⟩
          · rw [zS_zup_ne _ (by omega), zS_zup_ne _ (by omega), zS_zup_ne _ (by omega), zS_zup_same]
          · rw [zS_zup_ne _ (by omega), zS_zup_ne _ (by omega), zS_zup_same]
          · rw [zS_zup_ne _ (by omega), zS_zup_same]
        · have hk2 : k < znb m := by omega
          rw [hod k hk2, hlk k hk2]
          obtain ⟨x1, x2, x3⟩ := s7 k hk2
          refine ⟨?_, ?_, ?_⟩
          · rw [zS_zup_ne _ (by omega), zS_zup_ne _ (by omega), zS_zup_ne _ (by omega), zS_zup_nk _ _ hq]; exact x1
          · rw [zS_zup_ne _ (by omega), zS_zup_ne _ (by omega), zS_zup_nk _ _ hq, zS_zup_ne _ (by omega)]; exact x2
          · rw [zS_zup_ne _ (by omega), zS_zup_nk _ _ hq, zS_zup_ne _ (by omega), zS_zup_ne _ (by omega), x3, if_neg (fun e => ?_)]
            obtain ⟨lo2, hi2, p1, p2, p3, p4⟩ := o1 k hk2
            rcases (zcd_eq ha hb hab p1 p2).mp (by omega) with ⟨q1, q2⟩ | ⟨q1, q2⟩
            · rw [q1, q2] at h0
              omega
            · rw [q1, q2, i3 _ _ p2 (by omega)] at h0
              omega
      · rw [zS_zup_ne _ (by omega), zS_zup_ne _ (by omega), zS_zup_ne _ (by omega), zS_zup_ne _ (by omega)]
    · have e1 : zly m a b len = zm1 m a b len := by unfold zly; rw [if_neg (by omega), if_neg hz]
      have hnb : znb (zly m a b len) = znb m := by rw [e1]; exact zm1_un ha hb (by omega)
      have hod : ∀ k, zod (zly m a b len) k = zod m k := fun k => by rw [e1]; exact zm1_un ha hb (by omega)
      rw [decide_eq_false (by omega), if_neg (by decide), zS_ib _ (by omega), decide_eq_true (by omega), if_pos rfl, zS_cl (by omega)] at start
      refine ⟨_, start, zSr_bd hS he hun (fun b j x y => zS_zup_ne _ (by omega) _ _ _) (by rw [hnb, zS_zup_ne _ (by omega), h6]) (fun k hk => ?_), fun b j hb => zS_zup_ne _ (by omega) _ _ _⟩
      rw [hnb] at hk
      rw [hod, hlk k hk]
      obtain ⟨x1, x2, x3⟩ := s7 k hk
      refine ⟨by rw [zS_zup_ne _ (by omega)]; exact x1, by rw [zS_zup_ne _ (by omega)]; exact x2, ?_⟩
      by_cases hq : k = zplc m (zcd a b) 0 (znb m)
      · rw [← hq] at h2
        rw [if_pos h2.symm, ← hq, zS_zup_same]
      · rw [zS_zup_nk _ _ hq, x3, if_neg (fun e => hq ?_)]
        exact (o2 _ _ h1 hk (by rw [h2, e])).symm
