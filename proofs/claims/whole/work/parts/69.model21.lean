/-! leastRepaint, repainted, wouldCost, repaints, freedom, fewestColours. -/
def zchg (m q : Nat → Nat) : Nat := zset8 (fun c => zt m c && !decide (q c = zof m c 1)) 0 (zev8 m)
theorem zm_chg1 {h : zHp} {m q : Nat → Nat} (hR : zR h m) (hB : zB m) (hq : ∀ c, c < zev8 m → q c < 4) (h81 : ∀ c, c < zev8 m → h 81 c = nI (q c)) : ∀ (n o acc : Nat), o + n = zev8 m → zr_51 4 [some (.inr 76), some (.inl (nI acc)), some (.inl (nI o))] [] h = some (some (nI (acc ||| zset8 (fun c => zt m c && !decide (q c = zof m c 1)) o n)), h) := by
  have he := zB_ev hB
  intro n
  induction n with
  | zero =>
    intro o acc ho
    rw [zb_51_4, zg149, zR_149 hR, zS_cge (by omega) (by omega), if_pos rfl, decide_eq_true (by omega), if_pos rfl]
    simp [zset8]
  | succ n ih =>
    intro o acc ho
    have b1 := zB_1 hB (c := o) (by omega)
    have q4 := hq o (by omega)
    rw [zb_51_4, zg149, zR_149 hR, zS_cge (by omega) (by omega), if_pos rfl, decide_eq_false (by omega), if_neg (by decide), zm_there_n hR hB (by omega)]
    simp only [Option.bind_some, zpush]
    rw [zb_51_22, zS_b0, zS_or, zS_add]
    cases h1 : zt m o with
    | false =>
      rw [if_pos (by decide), ih (o + 1) _ (by omega)]
      simp [zset8, h1]
    | true =>
      rw [if_neg (by decide), zS_ib _ (by omega), decide_eq_true (by omega), if_pos rfl, zS_cl (by omega), h81 o (by omega), zm_of hR (by omega)]
      simp only [Option.bind_some, zpush]
      rw [zb_51_37, zS_ceq (by omega) (by omega), zS_or, zS_add, zS_shl1 _ (by omega), zS_or]
      by_cases h2 : q o = zof m o 1
      · rw [decide_eq_true h2, if_pos rfl, ih (o + 1) _ (by omega)]
        simp [zset8, h1, h2]
      · rw [decide_eq_false h2, if_neg (by decide), ih (o + 1) _ (by omega)]
        simp [zset8, h1, h2, Nat.or_assoc]
theorem zm_chg {h : zHp} {m q : Nat → Nat} (hR : zR h m) (hB : zB m) (hq : ∀ c, c < zev8 m → q c < 4) (h81 : ∀ c, c < zev8 m → h 81 c = nI (q c)) : zM_51 [.inr 76] h = some (some (nI (zchg m q)), h) := by
  rw [ze_51, zm_chg1 hR hB hq h81 (zev8 m) 0 0 (by omega)]
  simp [zchg]
def zqLeast (m : Nat → Nat) (w : Int32) : Int32 := if zrg w (nI 0) (nI 1) = false then -2 else match zbs m (zEs m) with
  | none => -4
  | some q => if w = nI 0 then nI (zcost m q) else nI (zchg m q)
theorem zm_least {h : zHp} {m : Nat → Nat} {hs : List (Nat → Nat)} {sn : Option (Nat → Nat)} {tx : List Nat} (hV : zMV h m hs sn tx) (hI : zI m) (w : Int32) : zAns (zM_52 [.inr 76, .inl w]) (zqLeast m w, none) h m hs sn tx := by
  have hR := hV.1
  have hB := hI.1
  have e1 := ze_52 w h
  rw [zm_in] at e1
  simp only [Option.bind_some, zpush] at e1
  rw [zb_52_6, zS_b0n] at e1
  change _ = (if zrg w (nI 0) (nI 1) = true then _ else _) at e1
  unfold zqLeast
  cases h1 : zrg w (nI 0) (nI 1) with
  | false =>
    rw [h1, if_neg (by decide)] at e1
    exact zAns_no hV e1
  | true =>
    obtain ⟨v, hv, hv1, rfl⟩ := zrg_of (v := w) (a := 0) (b := 1) (by omega) (by omega) h1
    obtain ⟨g1, a1, ⟨c1, c2, c3, c4⟩, a3⟩ := zm_gt hR hB hV.2.2.2.2.1 hV.2.2.2.2.2
    have hV1 := zKp_V a3 hV
    have hl := zKp_lo a3
    have hln := zall1_len hB (-5) (-5)
    rw [h1, if_pos rfl, a1] at e1
    simp only [Option.bind_some, zpush] at e1
    rw [zb_52_16, c1, zS_cne (by omega) (by omega), zS_cne (by omega) (by omega)] at e1
    rw [if_neg (by decide), show zEs m = zall1 m (-5) (-5) from rfl]
    by_cases h2 : (zall1 m (-5) (-5)).length = 0
    · rw [decide_eq_true h2, if_neg (by decide), zb_52_43] at e1
      rw [zbs_0 h2]
      exact ⟨g1, e1, hV1, hl⟩
    · obtain ⟨q, hq⟩ := zbs_ne (m := m) h2
      obtain ⟨r1, r2⟩ := c3 q hq
      rw [decide_eq_false h2, if_pos (by decide)] at e1
      rw [hq]
      by_cases h3 : v = 0
      · subst h3
        rw [decide_eq_true rfl, if_neg (by decide), zb_52_43, r1] at e1
        exact ⟨g1, e1, hV1, hl⟩
      · rw [decide_eq_false h3, if_pos (by decide), zm_chg hV1.1 hB (zE_lt hq) r2] at e1
        simp only [Option.bind_some, zpush] at e1
        rw [zb_52_43] at e1
        dsimp only
        rw [if_neg (show ¬ nI v = nI 0 by rw [zS_eq (by omega) (by omega)]; exact h3)]
        exact ⟨g1, e1, hV1, hl⟩
def zqRpd (m : Nat → Nat) (c : Int32) : Int32 := if zth m c = false then -1 else match zbs m (zEs m) with
  | none => -4
  | some q => nI (q c.toNatClampNeg)
theorem zm_rpd {h : zHp} {m : Nat → Nat} {hs : List (Nat → Nat)} {sn : Option (Nat → Nat)} {tx : List Nat} (hV : zMV h m hs sn tx) (hI : zI m) (c : Int32) : zAns (zM_53 [.inr 76, .inl c]) (zqRpd m c, none) h m hs sn tx := by
  have hR := hV.1
  have hB := hI.1
  have he := zB_ev hB
  have e1 := ze_53 c h
  rw [zm_no hR hB] at e1
  simp only [Option.bind_some, zpush] at e1
  rw [zb_53_5, zS_b0, Bool.not_not] at e1
  unfold zqRpd
  cases h1 : zth m c with
  | false =>
    rw [h1, if_neg (by decide)] at e1
    exact zAns_no hV e1
  | true =>
    obtain ⟨n, hn, hn1, rfl⟩ := zth_of h1
    obtain ⟨g1, a1, ⟨c1, c2, c3, c4⟩, a3⟩ := zm_gt hR hB hV.2.2.2.2.1 hV.2.2.2.2.2
    have hV1 := zKp_V a3 hV
    have hl := zKp_lo a3
    have hln := zall1_len hB (-5) (-5)
    rw [h1, if_pos rfl, a1] at e1
    simp only [Option.bind_some, zpush] at e1
    rw [zb_53_14, c1, zS_cne (by omega) (by omega), zS_ib _ (by omega), decide_eq_true (show n < 8 by omega), if_pos (show true = true from rfl), zS_cl (by omega)] at e1
    rw [if_neg (by decide), show zEs m = zall1 m (-5) (-5) from rfl, zS_cl (show n < 2147483648 by omega)]
    by_cases h2 : (zall1 m (-5) (-5)).length = 0
    · rw [decide_eq_true h2, if_neg (by decide)] at e1
      rw [zbs_0 h2]
      exact ⟨g1, e1, hV1, hl⟩
    · obtain ⟨q, hq⟩ := zbs_ne (m := m) h2
      obtain ⟨r1, r2⟩ := c3 q hq
      rw [decide_eq_false h2, if_pos (by decide), r2 n hn] at e1
      rw [hq]
      exact ⟨g1, e1, hV1, hl⟩
def zqRps (m : Nat → Nat) : Int32 := nI (zEs m).length
theorem zm_rps {h : zHp} {m : Nat → Nat} {hs : List (Nat → Nat)} {sn : Option (Nat → Nat)} {tx : List Nat} (hV : zMV h m hs sn tx) (hI : zI m) : zAns (zM_55 [.inr 76]) (zqRps m, none) h m hs sn tx := by
  obtain ⟨g1, a1, ⟨c1, c2, c3, c4⟩, a3⟩ := zm_gt hV.1 hI.1 hV.2.2.2.2.1 hV.2.2.2.2.2
  have e1 := ze_55 h
  rw [a1] at e1
  simp only [Option.bind_some, zpush] at e1
  rw [zb_55_4, c1] at e1
  exact ⟨g1, e1, zKp_V a3 hV, zKp_lo a3⟩
def zqFree (m : Nat → Nat) (c : Int32) : Int32 := if zth m c = false then -1 else nI (zfre m (zEs m) c.toNatClampNeg)
theorem zm_free {h : zHp} {m : Nat → Nat} {hs : List (Nat → Nat)} {sn : Option (Nat → Nat)} {tx : List Nat} (hV : zMV h m hs sn tx) (hI : zI m) (c : Int32) : zAns (zM_56 [.inr 76, .inl c]) (zqFree m c, none) h m hs sn tx := by
  have hR := hV.1
  have hB := hI.1
  have he := zB_ev hB
  have e1 := ze_56 c h
  rw [zm_no hR hB] at e1
  simp only [Option.bind_some, zpush] at e1
  rw [zb_56_5, zS_b0, Bool.not_not] at e1
  unfold zqFree
  cases h1 : zth m c with
  | false =>
    rw [h1, if_neg (by decide)] at e1
    exact zAns_no hV e1
  | true =>
    obtain ⟨n, hn, hn1, rfl⟩ := zth_of h1
    obtain ⟨g1, a1, ⟨c1, c2, c3, c4⟩, a3⟩ := zm_gt hR hB hV.2.2.2.2.1 hV.2.2.2.2.2
    rw [h1, if_pos rfl, a1] at e1
    simp only [Option.bind_some, zpush] at e1
    rw [zb_56_14, zS_ib _ (by omega), decide_eq_true (show n < 8 by omega), if_pos (show true = true from rfl), zS_cl (by omega), c2 n (by omega)] at e1
    rw [if_neg (by decide), zS_cl (show n < 2147483648 by omega)]
    exact ⟨g1, e1, zKp_V a3 hV, zKp_lo a3⟩
def zqFew (m : Nat → Nat) : Int32 := match zfw m (zEs m) with
  | none => -4
  | some x => nI x
theorem zm_few {h : zHp} {m : Nat → Nat} {hs : List (Nat → Nat)} {sn : Option (Nat → Nat)} {tx : List Nat} (hV : zMV h m hs sn tx) (hI : zI m) : zAns (zM_57 [.inr 76]) (zqFew m, none) h m hs sn tx := by
  obtain ⟨g1, a1, ⟨c1, c2, c3, c4⟩, a3⟩ := zm_gt hV.1 hI.1 hV.2.2.2.2.1 hV.2.2.2.2.2
  have hln := zall1_len hI.1 (-5) (-5)
  have e1 := ze_57 h
  rw [a1] at e1
  simp only [Option.bind_some, zpush] at e1
  rw [zb_57_4, c1, zS_cne (by omega) (by omega)] at e1
  unfold zqFew
  rw [show zEs m = zall1 m (-5) (-5) from rfl]
  by_cases h2 : (zall1 m (-5) (-5)).length = 0
  · rw [decide_eq_true h2, if_neg (by decide)] at e1
    rw [zfw_0 h2]
    exact ⟨g1, e1, zKp_V a3 hV, zKp_lo a3⟩
  · obtain ⟨x, hx⟩ := zfw_ne (m := m) h2
    rw [decide_eq_false h2, if_pos (by decide), (c4 x hx).2] at e1
    rw [hx]
    exact ⟨g1, e1, zKp_V a3 hV, zKp_lo a3⟩
def zqWould (m : Nat → Nat) (a b : Int32) : Int32 := if zth m a = false then -1 else if zth m b = false then -1 else if a = b then -2 else match zbs m (zall1 m a b) with
  | none => -4
  | some q => nI (zcost m q)
theorem zm_would {h : zHp} {m : Nat → Nat} {hs : List (Nat → Nat)} {sn : Option (Nat → Nat)} {tx : List Nat} (hV : zMV h m hs sn tx) (hI : zI m) (a b : Int32) : zAns (zM_54 [.inr 76, .inl a, .inl b]) (zqWould m a b, none) h m hs sn tx := by
  have hR := hV.1
  have hB := hI.1
  have he := zB_ev hB
  have e1 := ze_54 a b h
  rw [zm_no hR hB] at e1
  simp only [Option.bind_some, zpush] at e1
  rw [zb_54_5, zS_b0n] at e1
  unfold zqWould
  cases h1 : zth m a with
  | false =>
    rw [h1, if_pos (by decide)] at e1
    exact zAns_no hV e1
  | true =>
  rw [h1, if_neg (by decide), zm_no hR hB] at e1
  simp only [Option.bind_some, zpush] at e1
  rw [zb_54_13, zS_b0, Bool.not_not] at e1
  rw [if_neg (by decide)]
  cases h2 : zth m b with
  | false =>
    rw [h2, if_neg (by decide)] at e1
    exact zAns_no hV e1
  | true =>
  rw [h2, if_pos rfl] at e1
  rw [if_neg (by decide)]
  change _ = (if (!decide (a = b)) = true then _ else _) at e1
  by_cases h3 : a = b
  · rw [decide_eq_true h3, if_neg (by decide)] at e1
    rw [if_pos h3]
    exact zAns_no hV e1
  rw [decide_eq_false h3, if_pos (by decide)] at e1
  rw [if_neg h3]
  have hz : ∀ c j, ¬ (c = 76 ∧ (j = 11 ∨ j = 12)) → zup (zup h 76 11 a) 76 12 b c j = h c j := fun c j hc => by
    unfold zup
    rw [if_neg (by omega), if_neg (by omega)]
  have hR2 : zR (zup (zup h 76 11 a) 76 12 b) m := fun k hk => by rw [hz _ _ (by omega), hR k hk]
  obtain ⟨g1, a1, ⟨c1, c2, c3, c4⟩, a3⟩ := zm_gt hR2 hB (e1 := a) (e2 := b) (by rw [zS_zup_nk _ _ (by omega), zS_zup_same]) (zS_zup_same _ _ _ _)
  rw [a1] at e1
  simp only [Option.bind_some, zpush] at e1
  have hy : ∀ c j, ¬ (c = 76 ∧ (j = 11 ∨ j = 12)) → zup (zup g1 76 11 (-5)) 76 12 (-5) c j = g1 c j := fun c j hc => by
    unfold zup
    rw [if_neg (by omega), if_neg (by omega)]
  have hall : ∀ c j, c ≠ 80 → c ≠ 81 → c ≠ 82 → ¬ (c = 76 ∧ (j = 8 ∨ j = 9 ∨ j = 10 ∨ j = 11 ∨ j = 12)) → zup (zup g1 76 11 (-5)) 76 12 (-5) c j = h c j := fun c j q1 q2 q3 q4 => by
    rw [hy c j (by omega), a3 c j q1 q2 q3 (by omega), hz c j (by omega)]
  have hln := zall1_len hB a b
  rw [zb_54_40, hy 76 9 (by omega), hy 76 8 (by omega), c1, zS_cne (by omega) (by omega)] at e1
  have hV2 : zMV (zup (zup g1 76 11 (-5)) 76 12 (-5)) m hs sn tx := by
    obtain ⟨v1, ⟨v2, v3, v4⟩, ⟨v5, v6⟩, ⟨v7, v8, v9⟩, v10, v11⟩ := hV
    exact ⟨fun k hk => by rw [hall _ _ (by omega) (by omega) (by omega) (by omega), v1 k hk], ⟨by rw [hall _ _ (by omega) (by omega) (by omega) (by omega), v2], v3, fun i x hx k hk => by rw [hall _ _ (by omega) (by omega) (by omega) (by omega), v4 i x hx k hk]⟩, ⟨by rw [hall _ _ (by omega) (by omega) (by omega) (by omega), v5], fun x hx k hk => by rw [hall _ _ (by omega) (by omega) (by omega) (by omega), v6 x hx k hk]⟩, ⟨by rw [hall _ _ (by omega) (by omega) (by omega) (by omega), v7], v8, fun i x hx => by rw [hall _ _ (by omega) (by omega) (by omega) (by omega), v9 i x hx]⟩, by rw [zS_zup_nk _ _ (by omega), zS_zup_same], zS_zup_same _ _ _ _⟩
  have hl : zlo h (zup (zup g1 76 11 (-5)) 76 12 (-5)) := fun c hc j => hall c j (by omega) (by omega) (by omega) (by omega)
  by_cases h4 : (zall1 m a b).length = 0
  · rw [decide_eq_true h4, if_neg (by decide)] at e1
    rw [zbs_0 h4]
    exact ⟨_, e1, hV2, hl⟩
  · obtain ⟨q, hq⟩ := zbs_ne (m := m) h4
    rw [decide_eq_false h4, if_pos (by decide), (c3 q hq).1] at e1
    rw [hq]
    exact ⟨_, e1, hV2, hl⟩
