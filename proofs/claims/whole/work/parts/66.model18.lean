/-! meets. -/
theorem zm_meet3 {m p : Nat → Nat} (hB : zB m) {L : List (Nat → Nat)} (hL : L.length < 65536) {hX : zHp} (e9 : hX 76 9 = nI L.length) (e10 : ∀ x, zfw m L = some x → x ≤ 8 ∧ hX 76 10 = nI x) (e82 : ∀ c, c < 8 → hX 82 c = nI (zfre m (L ++ [p]) c)) (eb : ∀ q, zbs m (L ++ [p]) = some q → hX 76 8 = nI (zcost m q) ∧ ∀ c, c < zev8 m → hX 81 c = nI (q c)) (d1 d2 d3 : Option zV) : ∃ h', zr_32 138 [some (.inr 76), d1, d2, d3] [.inl (nI (zbits (zpcs m p)))] hX = some (none, h') ∧ zAc m h' (L ++ [p]) ∧ zKp hX h' ∧ (∀ j, h' 80 j = hX 80 j) := by
  have hb8 := zbits_le (zpcs m p)
  have key : ∀ y, (∀ x, zfw m (L ++ [p]) = some x → x = y) → y ≤ 8 → zAc m (zup (zup hX 76 10 (nI y)) 76 9 (nI (L.length + 1))) (L ++ [p]) := by
    intro y hy hy8
    have hz : ∀ b j, ¬ (b = 76 ∧ (j = 9 ∨ j = 10)) → zup (zup hX 76 10 (nI y)) 76 9 (nI (L.length + 1)) b j = hX b j := fun b j hb => by
      unfold zup
      rw [if_neg (by omega), if_neg (by omega)]
    refine ⟨?_, fun c hc => by rw [hz _ _ (by omega)]; exact e82 c hc, fun q hq => ⟨by rw [hz _ _ (by omega)]; exact (eb q hq).1, fun c hc => by rw [hz _ _ (by omega)]; exact (eb q hq).2 c hc⟩, fun x hx => ?_⟩
    · rw [zS_zup_same]
      simp
    · rw [hy x hx]
      refine ⟨hy8, ?_⟩
      rw [zS_zup_nk _ _ (by omega), zS_zup_same]
  have fin : ∀ y, (∀ x, zfw m (L ++ [p]) = some x → x = y) → y ≤ 8 → zr_32 138 [some (.inr 76), d1, d2, d3] [.inl (nI (zbits (zpcs m p)))] hX = some (none, zup (zup hX 76 10 (nI y)) 76 9 (nI (L.length + 1))) → ∃ h', zr_32 138 [some (.inr 76), d1, d2, d3] [.inl (nI (zbits (zpcs m p)))] hX = some (none, h') ∧ zAc m h' (L ++ [p]) ∧ zKp hX h' ∧ (∀ j, h' 80 j = hX 80 j) := fun y hy hy8 heq => ⟨_, heq, key y hy hy8, zKp_up (zKp_up (zKp_rf hX) (by omega) _) (by omega) _, fun j => by rw [zS_zup_ne _ (by omega), zS_zup_ne _ (by omega)]⟩
  have n9 : ∀ y, (zup hX 76 10 y) 76 9 = nI L.length := fun y => by rw [zS_zup_nk _ _ (by omega), e9]
  have start := zb_32_138 (nI (zbits (zpcs m p))) d1 d2 d3 hX
  rw [n9, n9, e9, zS_add, zS_ceq (by omega) (by omega)] at start
  by_cases h1 : L.length = 0
  · rw [decide_eq_true h1, if_pos rfl] at start
    have hL0 : L = [] := List.eq_nil_of_length_eq_zero h1
    refine fin _ (fun x hx => ?_) hb8 start
    rw [zfw_ap, hL0] at hx
    cases hx
    rfl
  · rw [decide_eq_false h1, if_neg (by decide)] at start
    obtain ⟨x, hx⟩ := zfw_ne (m := m) h1
    obtain ⟨x8, hx10⟩ := e10 x hx
    rw [hx10, zS_cge (by omega) (by omega)] at start
    have hap := zfw_ap m L p
    rw [hx] at hap
    unfold zfwst at hap
    dsimp only at hap
    by_cases h2 : zbits (zpcs m p) < x
    · rw [decide_eq_false (by omega), if_neg (by decide)] at start
      rw [if_pos h2] at hap
      exact fin _ (fun y hy => by rw [hap] at hy; cases hy; rfl) hb8 start
    · rw [decide_eq_true (by omega), if_pos rfl] at start
      rw [if_neg h2] at hap
      exact fin _ (fun y hy => by rw [hap] at hy; cases hy; rfl) x8 start
theorem zm_meet {m p : Nat → Nat} (hB : zB m) {L : List (Nat → Nat)} (hL : L.length < 65536) {h : zHp} (hR : zR h m) (hp4 : ∀ c, c < zev8 m → p c < 4) (h80 : ∀ c, c < zev8 m → h 80 c = nI (p c)) (hA : zAc m h L) : ∃ h', zM_32 [.inr 76] h = some (none, h') ∧ zAc m h' (L ++ [p]) ∧ zKp h h' ∧ (∀ j, h' 80 j = h 80 j) := by
  have he := zB_ev hB
  obtain ⟨a1, a2, a3, a4⟩ := hA
  obtain ⟨h1, q1, q2, q3⟩ := zm_meet1 (F := zfre m L) hB hp4 (zev8 m) 0 0 0 h (by omega) hR h80 (fun c hc => by
    rw [a2 c hc]
    unfold zfr
    rw [if_neg (by omega)])
  rw [Nat.zero_add, Nat.zero_or] at q1
  change _ = zr_32 6 [some (.inr 76), some (.inl (nI (zcost m p))), some (.inl (nI (zpcs m p))), some (.inl (nI (zev8 m)))] [] h1 at q1
  have hR1 : zR h1 m := fun k hk => by rw [q3 77 k (by omega), hR k hk]
  have e9 : h1 76 9 = nI L.length := by rw [q3 76 9 (by omega), a1]
  have hK1 : zKp h h1 := fun b j hb1 hb2 hb3 hb4 => q3 b j hb3
  have q2 : ∀ c, c < 8 → h1 82 c = nI (zfre m (L ++ [p]) c) := fun c hc => by rw [zfre_ap]; exact q2 c hc
  have hpc : zpcs m p < 256 := by
    have := zpk_lt (m := m) (N := zev8 m) hp4 (zev8 m) 0 (by omega)
    unfold zpcs
    omega
  have hcl := zcost_le hB p
  have hap := zbs_ap m L p
  -- the new one is best
  have take : (zbs m (L ++ [p]) = some p) → zM_32 [.inr 76] h = zr_32 110 [some (.inr 76), some (.inl (nI (zcost m p))), some (.inl (nI (zpcs m p))), some (.inl (nI 0))] [] (zup h1 76 8 (nI (zcost m p))) → ∃ h', zM_32 [.inr 76] h = some (none, h') ∧ zAc m h' (L ++ [p]) ∧ zKp h h' ∧ (∀ j, h' 80 j = h 80 j) := by
    intro hbp heq
    have hm2 := zm_meet2 (zup h1 76 8 (nI (zcost m p))) hpc (some (.inl (nI (zcost m p)))) 8 0 (by omega)
    rw [zcy_0] at hm2
    have hz : ∀ b j, b ≠ 81 → ¬ (b = 76 ∧ j = 8) → zcy (zup h1 76 8 (nI (zcost m p))) 81 0 80 0 8 b j = h1 b j := fun b j hb1 hb2 => by
      rw [zcy_ne _ hb1]
      unfold zup
      rw [if_neg hb2]
    obtain ⟨h', r1, r2, r3, r4⟩ := zm_meet3 (p := p) hB hL (hX := zcy (zup h1 76 8 (nI (zcost m p))) 81 0 80 0 8) (by rw [hz _ _ (by omega) (by omega), e9]) (fun x hx => by rw [hz _ _ (by omega) (by omega), q3 76 10 (by omega)]; exact a4 x hx) (fun c hc => by rw [hz _ _ (by omega) (by omega)]; exact q2 c hc) (fun q hq => by
      rw [hbp] at hq
      cases hq
      refine ⟨by rw [zcy_ne _ (by omega), zS_zup_same], fun c hc => ?_⟩
      rw [zcy_in _ (by omega) (by omega), zS_zup_ne _ (by omega), q3 _ _ (by omega), Nat.zero_add, Nat.sub_zero]
      exact h80 c hc) (some (.inl (nI (zcost m p)))) (some (.inl (nI (zpcs m p)))) (some (.inl (nI 8)))
    refine ⟨h', by rw [heq, hm2, r1], r2, zKp_tr (fun b j b1 b2 b3 b4 => ?_) r3, fun j => by rw [r4 j, hz _ _ (by omega) (by omega), q3 _ _ (by omega)]⟩
    rw [hz b j b2 (by omega)]
    exact hK1 b j b1 b2 b3 b4
  have start : zM_32 [.inr 76] h = zr_32 6 [some (.inr 76), some (.inl (nI (zcost m p))), some (.inl (nI (zpcs m p))), some (.inl (nI (zev8 m)))] [] h1 := by rw [ze_32, q1]
  rw [zb_32_6, zg149, zR_149 hR1, zS_cge (by omega) (by omega), if_pos rfl, decide_eq_true (by omega), if_pos rfl, e9, zS_ceq (by omega) (by omega)] at start
  by_cases h2 : L.length = 0
  · rw [decide_eq_true h2, if_pos rfl] at start
    have hL0 : L = [] := List.eq_nil_of_length_eq_zero h2
    refine take ?_ start
    rw [hap, hL0]
    rfl
  · rw [decide_eq_false h2, if_neg (by decide)] at start
    obtain ⟨q, hq⟩ := zbs_ne (m := m) h2
    obtain ⟨g1, g2⟩ := a3 q hq
    have hcq := zcost_le hB q
    rw [q3 76 8 (by omega), g1, zS_cge (by omega) (by omega), zm_bits h1 hpc] at start
    rw [hq] at hap
    unfold zbst at hap
    dsimp only at hap
    by_cases h3 : zcost m p < zcost m q
    · rw [decide_eq_false (by omega), if_neg (by decide)] at start
      rw [if_pos h3] at hap
      exact take hap start
    · rw [decide_eq_true (by omega), if_pos rfl] at start
      simp only [Option.bind_some, zpush] at start
      rw [if_neg h3] at hap
      obtain ⟨h', r1, r2, r3, r4⟩ := zm_meet3 (p := p) hB hL (hX := h1) e9 (fun x hx => by rw [q3 76 10 (by omega)]; exact a4 x hx) q2 (fun y hy => by
        rw [hap] at hy
        cases hy
        exact ⟨by rw [q3 76 8 (by omega), g1], fun c hc => by rw [q3 81 c (by omega), g2 c hc]⟩) (some (.inl (nI (zcost m p)))) (some (.inl (nI (zpcs m p)))) (some (.inl (nI (zev8 m))))
      exact ⟨h', by rw [start, r1], r2, zKp_tr hK1 r3, fun j => by rw [r4 j, q3 80 j (by omega)]⟩
