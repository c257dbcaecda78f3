/-! What the row always keeps; the acts on one country. -/
def zod (m : Nat → Nat) (k : Nat) : Nat := m (104 + k)
/-- the order of the borders -/
def zOd (m : Nat → Nat) : Prop := (∀ k, k < znb m → ∃ lo hi, lo < hi ∧ hi < 8 ∧ zod m k = 10 * lo + hi ∧ 0 < zln m lo hi) ∧ (∀ j k, j < znb m → k < znb m → zod m j = zod m k → j = k) ∧ (∀ lo hi, lo < hi → hi < 8 → 0 < zln m lo hi → ∃ k, k < znb m ∧ zod m k = 10 * lo + hi)
def zI (m : Nat → Nat) : Prop := zB m ∧ (∀ c, c < 8 → zev8 m ≤ c → zof m c 0 = 0) ∧ (∀ c, c < 8 → zof m c 4 = 1 → zof m c 0 = 1) ∧ (∀ a b, a < 8 → b < 8 → zln m a b = zln m b a) ∧ (∀ a, a < 8 → zln m a a = 0) ∧ (∀ a b, a < 8 → b < 8 → 0 < zln m a b → zof m a 0 = 1) ∧ (∀ a b, a < 4 → b < 4 → zbd m a b = zbd m b a) ∧ zOd m
theorem zof_u {m : Nat → Nat} {c w : Nat} (x : Nat) (hc : c < 8) (hw : w < 5) {d v : Nat} (hv : v < 5) : zof (zu m (5 * c + w) x) d v = if d = c ∧ v = w then x else zof m d v := by
  unfold zof zu
  by_cases h : d = c ∧ v = w
  · rw [if_pos h, if_pos (by omega)]
  · rw [if_neg h, if_neg (by omega)]
theorem zln_u {m : Nat → Nat} {k : Nat} (x : Nat) (hk : k < 40) (a b : Nat) : zln (zu m k x) a b = zln m a b := by
  unfold zln zu
  rw [if_neg (by omega)]
theorem zbd_u {m : Nat → Nat} {k : Nat} (x : Nat) (hk : k < 40) (a b : Nat) : zbd (zu m k x) a b = zbd m a b := by
  unfold zbd zu
  rw [if_neg (by omega)]
theorem zod_u {m : Nat → Nat} {k : Nat} (x : Nat) (hk : k < 40) (j : Nat) : zod (zu m k x) j = zod m j := by
  unfold zod zu
  rw [if_neg (by omega)]
theorem zev_u {m : Nat → Nat} {k : Nat} (x : Nat) (hk : k < 40) : zev8 (zu m k x) = zev8 m := by
  unfold zev8 zu
  rw [if_neg (by omega)]
theorem znb_u {m : Nat → Nat} {k : Nat} (x : Nat) (hk : k < 40) : znb (zu m k x) = znb m := by
  unfold znb zu
  rw [if_neg (by omega)]
theorem zOd_u {m : Nat → Nat} {k : Nat} (x : Nat) (hk : k < 40) (h : zOd m) : zOd (zu m k x) := by
  obtain ⟨h1, h2, h3⟩ := h
  refine ⟨fun j hj => ?_, fun i j hi hj he => ?_, fun lo hi a b d => ?_⟩
  · rw [znb_u x hk] at hj
    obtain ⟨lo, hi, p1, p2, p3, p4⟩ := h1 j hj
    exact ⟨lo, hi, p1, p2, by rw [zod_u x hk]; exact p3, by rw [zln_u x hk]; exact p4⟩
  · rw [znb_u x hk] at hi hj
    rw [zod_u x hk, zod_u x hk] at he
    exact h2 i j hi hj he
  · rw [zln_u x hk] at d
    obtain ⟨k2, p1, p2⟩ := h3 lo hi a b d
    exact ⟨k2, by rw [znb_u x hk]; exact p1, by rw [zod_u x hk]; exact p2⟩
theorem zI_field {m : Nat → Nat} {c w x : Nat} (hc : c < 8) (hw : w < 5) (hw1 : 1 ≤ w) (hx : (w = 1 → x ≤ 3) ∧ (w = 2 → x ≤ 15) ∧ (w = 3 → x ≤ 99) ∧ (w = 4 → x ≤ 1 ∧ (x = 1 → zof m c 0 = 1))) (h : zI m) : zI (zu m (5 * c + w) x) := by
  have hk : 5 * c + w < 40 := by omega
  obtain ⟨⟨b1, b2, b3, b4, b5⟩, i1, i2, i3, i4, i5, i6, i7⟩ := h
  refine ⟨⟨by rw [zev_u x hk]; exact b1, by rw [znb_u x hk]; exact b2, fun d hd => ?_, fun a b ha hb => by rw [zln_u x hk]; exact b4 a b ha hb, fun a b ha hb => by rw [zbd_u x hk]; exact b5 a b ha hb⟩, fun d hd he => ?_, fun d hd he => ?_, fun a b ha hb => ?_, fun a ha => ?_, fun a b ha hb hl => ?_, fun a b ha hb => ?_, zOd_u x hk i7⟩
  · obtain ⟨q0, q1, q2, q3, q4⟩ := b3 d hd
    simp only [zof_u x hc hw (show 0 < 5 by omega), zof_u x hc hw (show 1 < 5 by omega), zof_u x hc hw (show 2 < 5 by omega), zof_u x hc hw (show 3 < 5 by omega), zof_u x hc hw (show 4 < 5 by omega)]
    refine ⟨?_, ?_, ?_, ?_, ?_⟩ <;> split <;> omega
  · rw [zev_u x hk] at he
    rw [zof_u x hc hw (by omega), if_neg (by omega)]
    exact i1 d hd he
  · rw [zof_u x hc hw (by omega), if_neg (by omega)]
    rw [zof_u x hc hw (by omega)] at he
    by_cases hq : d = c ∧ 4 = w
    · rw [if_pos hq] at he
      rw [hq.1]
      exact (hx.2.2.2 hq.2.symm).2 he
    · rw [if_neg hq] at he
      exact i2 d hd he
  · rw [zln_u x hk, zln_u x hk]
    exact i3 a b ha hb
  · rw [zln_u x hk]
    exact i4 a ha
  · rw [zln_u x hk] at hl
    rw [zof_u x hc hw (by omega), if_neg (by omega)]
    exact i5 a b ha hb hl
  · rw [zbd_u x hk, zbd_u x hk]
    exact i6 a b ha hb
/-- behind an act (or behind none) -/
def zPost (h' : zHp) (om : Option (Nat → Nat)) (m : Nat → Nat) (hs : List (Nat → Nat)) (sn : Option (Nat → Nat)) (tx : List Nat) : Prop := match om with
  | none => zMV h' m hs sn tx
  | some m' => zMV h' m' (zph hs m) sn tx
/-- the reference answers so -/
def zAns (f : zHp → zRs) (r : Int32 × Option (Nat → Nat)) (h : zHp) (m : Nat → Nat) (hs : List (Nat → Nat)) (sn : Option (Nat → Nat)) (tx : List Nat) : Prop := ∃ h', f h = some (some r.1, h') ∧ zPost h' r.2 m hs sn tx ∧ zlo h h'
theorem zAns_no {f : zHp → zRs} {r : Int32} {h : zHp} {m : Nat → Nat} {hs : List (Nat → Nat)} {sn : Option (Nat → Nat)} {tx : List Nat} (hV : zMV h m hs sn tx) (hf : f h = some (some r, h)) : zAns f (r, none) h m hs sn tx := ⟨h, hf, hV, zlo_rf h⟩
def zoPaint (m : Nat → Nat) (c v : Int32) : Int32 × Option (Nat → Nat) :=
  if zth m c = false then (-1, none) else if zcol v = false then (-2, none) else if zof m c.toNatClampNeg 4 = 1 then (-4, none) else if zof m c.toNatClampNeg 1 = v.toNatClampNeg then (-5, none)
  else (nI (zwrs (zu m (5 * c.toNatClampNeg + 1) v.toNatClampNeg)), some (zu m (5 * c.toNatClampNeg + 1) v.toNatClampNeg))
theorem zI_paint {m : Nat → Nat} (h : zI m) (c v : Int32) (m' : Nat → Nat) (hm : (zoPaint m c v).2 = some m') : zI m' := by
  unfold zoPaint at hm
  split at hm
  · cases hm
  · rename_i h1
    split at hm
    · cases hm
    · rename_i h2
      split at hm
      · cases hm
      · split at hm
        · cases hm
        · cases hm
          have he := zB_ev h.1
          obtain ⟨n, hn, -, rfl⟩ := zth_of (by simpa using h1)
          obtain ⟨k, hk, rfl⟩ := zcol_of (by simpa using h2)
          rw [zS_cl (by omega), zS_cl (by omega)]
          exact zI_field (by omega) (by omega) (by omega) ⟨fun _ => by omega, fun q => by omega, fun q => by omega, fun q => by omega⟩ h
theorem zm_paint {h : zHp} {m : Nat → Nat} {hs : List (Nat → Nat)} {sn : Option (Nat → Nat)} {tx : List Nat} (hV : zMV h m hs sn tx) (hI : zI m) (c v : Int32) : zAns (zM_14 [.inr 76, .inl c, .inl v]) (zoPaint m c v) h m hs sn tx := by
  have hR := hV.1
  have hB := hI.1
  have he := zB_ev hB
  have e1 : zM_14 [.inr 76, .inl c, .inl v] h = (zM_7 [.inr 76, .inl c] h).bind (fun r => zr_14 5 [some (.inr 76), some (.inl c), some (.inl v)] (zpush r.1 []) r.2) := ze_14 c v h
  rw [zm_no hR hB] at e1
  simp only [Option.bind_some, zpush] at e1
  rw [zb_14_5, zS_b0] at e1
  have hI2 := zI_paint hI c v
  unfold zoPaint at hI2 ⊢
  cases h1 : zth m c with
  | false =>
    rw [h1, if_neg (by decide)] at e1
    exact zAns_no hV e1
  | true =>
    rw [h1, if_pos (by decide), zm_col] at e1
    simp only [Option.bind_some, zpush] at e1
    rw [zb_14_14, zS_b0n] at e1
    rw [h1, if_neg (by decide)] at hI2
    rw [if_neg (by decide)]
    cases h2 : zcol v with
    | false =>
      rw [h2, if_neg (by decide)] at e1
      exact zAns_no hV e1
    | true =>
      obtain ⟨n, hn, -, rfl⟩ := zth_of h1
      obtain ⟨k, hk, rfl⟩ := zcol_of h2
      have hn8 : n < 8 := by omega
      have hf4 := zB_4 hB hn8
      have hf1 := zB_1 hB hn8
      rw [h2, if_pos rfl, zm_of hR (by omega)] at e1
      simp only [Option.bind_some, zpush] at e1
      rw [zb_14_26, zS_cne (by omega) (by omega)] at e1
      rw [h2, if_neg (by decide), zS_cl (show n < 2147483648 by omega), zS_cl (show k < 2147483648 by omega)] at hI2
      rw [if_neg (by decide), zS_cl (show n < 2147483648 by omega), zS_cl (show k < 2147483648 by omega)]
      by_cases h3 : zof m n 4 = 1
      · rw [decide_eq_true h3, if_neg (by decide)] at e1
        rw [if_pos h3]
        exact zAns_no hV e1
      · rw [decide_eq_false h3, if_pos (by decide), zm_of hR (by omega)] at e1
        simp only [Option.bind_some, zpush] at e1
        rw [zb_14_39, zS_cne (by omega) (by omega)] at e1
        rw [if_neg h3] at hI2 ⊢
        by_cases h4 : zof m n 1 = k
        · rw [decide_eq_true h4, if_neg (by decide)] at e1
          rw [if_pos h4]
          exact zAns_no hV e1
        · rw [if_neg h4] at hI2 ⊢
          obtain ⟨h', p1, p2, p3⟩ := zm_recV hV
          rw [decide_eq_false h4, if_pos (by decide), p1] at e1
          simp only [Option.bind_some, zpush] at e1
          rw [zb_14_50, zm_puts _ (by omega)] at e1
          simp only [Option.bind_some, zpush] at e1
          have hV2 := zMV_up p2 (5 * n + 1) k
          rw [zb_14_57, zm_wrs hV2.1 (hI2 _ rfl).1] at e1
          simp only [Option.bind_some, zpush] at e1
          rw [zb_14_61] at e1
          exact ⟨_, e1, hV2, zlo_up p3 (by omega) _ _⟩
