/-! The reference's questions: country, border, borderAt, forbidden, count. -/
theorem zsw (x : Int32) {n : Nat} (hn : n < 2147483647) : (x.toInt < 0 ∨ (n : Int) < x.toInt) ∨ ∃ k, k ≤ n ∧ x = nI k := by
  by_cases h : x < nI 0
  · left; left
    have h2 := Int32.lt_iff_toInt_lt.mp h
    rw [nI_toInt (by omega)] at h2
    exact h2
  · obtain ⟨k, hk, rfl⟩ := nI_of (x := x) h
    rw [nI_toInt (by omega)]
    by_cases h2 : k ≤ n
    · exact Or.inr ⟨k, h2, rfl⟩
    · left; right; omega
theorem zup_up (h : zHp) (a k : Nat) (x y : Int32) : zup (zup h a k x) a k y = zup h a k y := by
  funext b j
  unfold zup
  by_cases e : b = a ∧ j = k
  · rw [if_pos e, if_pos e]
  · rw [if_neg e, if_neg e, if_neg e]
theorem zup_id (h : zHp) {a k : Nat} {x : Int32} (hx : h a k = x) : zup h a k x = h := by
  funext b j
  unfold zup
  by_cases e : b = a ∧ j = k
  · rw [if_pos e, e.1, e.2, hx]
  · rw [if_neg e]
/-- the colours that would do -/
def zcou (m : Nat → Nat) (c : Nat) : Nat := zset8 (fun v => !zwr (zu m (5 * c + 1) v) c) 0 4
theorem zB_col {m : Nat → Nat} (hB : zB m) {c v : Nat} (hc : c < 8) (hv : v < 4) : zB (zu m (5 * c + 1) v) := by
  obtain ⟨b1, b2, b3, b4, b5⟩ := hB
  refine ⟨?_, ?_, fun d hd => ?_, fun a b ha hb => ?_, fun a b ha hb => ?_⟩
  · rw [zev_u _ (by omega)]; exact b1
  · rw [znb_u _ (by omega)]; exact b2
  · rw [zof_u _ hc (by omega) (by omega), zof_u _ hc (by omega) (by omega), zof_u _ hc (by omega) (by omega), zof_u _ hc (by omega) (by omega), zof_u _ hc (by omega) (by omega)]
    have := b3 d hd
    refine ⟨?_, ?_, ?_, ?_, ?_⟩
    · rw [if_neg (by omega)]; omega
    · split <;> omega
    · rw [if_neg (by omega)]; omega
    · rw [if_neg (by omega)]; omega
    · rw [if_neg (by omega)]; omega
  · rw [zln_u _ (by omega)]; exact b4 a b ha hb
  · rw [zbd_u _ (by omega)]; exact b5 a b ha hb
theorem zm_cou1 {h : zHp} {m : Nat → Nat} (hR : zR h m) (hB : zB m) {c : Nat} (hc : c < 8) : ∀ (n v acc : Nat) (y : Int32), v + n = 4 → zr_46 12 [some (.inr 76), some (.inl (nI c)), some (.inl (nI (zof m c 1))), some (.inl (nI acc)), some (.inl (nI v))] [] (zup h 77 (5 * c + 1) y) = some (some (nI (acc ||| zset8 (fun v => !zwr (zu m (5 * c + 1) v) c) v n)), h) := by
  intro n
  induction n with
  | zero =>
    intro v acc y hv
    rw [zb_46_12, zS_cge (by omega) (by omega), decide_eq_true (by omega), if_pos rfl, zm_puts _ (by omega)]
    simp only [Option.bind_some, zpush]
    rw [zb_46_58, zup_up, zup_id h (x := nI (zof m c 1)) (hR (5 * c + 1) (by omega))]
    simp [zset8]
  | succ n ih =>
    intro v acc y hv
    have hR2 := zR_up hR (5 * c + 1) v
    have hB2 := zB_col hB hc (v := v) (by omega)
    rw [zb_46_12, zS_cge (by omega) (by omega), decide_eq_false (by omega), if_neg (by decide), zm_puts _ (by omega), zup_up]
    simp only [Option.bind_some, zpush]
    rw [zb_46_26, zm_wrong hR2 hB2 hc]
    simp only [Option.bind_some, zpush]
    rw [zb_46_32, zS_b0, zS_shl1 _ (by omega), zS_or, zS_or, zS_add]
    cases h1 : zwr (zu m (5 * c + 1) v) c with
    | false =>
      rw [if_pos (by decide), ih (v + 1) _ _ (by omega)]
      simp [zset8, h1, Nat.or_assoc]
    | true =>
      rw [if_neg (by decide), ih (v + 1) _ _ (by omega)]
      simp [zset8, h1]
theorem zm_cou {h : zHp} {m : Nat → Nat} (hR : zR h m) (hB : zB m) {c : Nat} (hc : c < 8) : zM_46 [.inr 76, .inl (nI c)] h = some (some (nI (zcou m c)), h) := by
  rw [ze_46, zm_of hR (by omega)]
  simp only [Option.bind_some, zpush]
  have := zm_cou1 hR hB hc 4 0 0 (nI (zof m c 1)) (by omega)
  rw [zup_id h (x := nI (zof m c 1)) (hR (5 * c + 1) (by omega))] at this
  rw [zb_46_6, this]
  simp [zcou]
def zqCountry (m : Nat → Nat) (c w : Int32) : Int32 :=
  if zth m c = false then -1 else
  if w = nI 0 then nI (zof m c.toNatClampNeg 1) else if w = nI 1 then nI (zof m c.toNatClampNeg 2) else if w = nI 2 then nI (zof m c.toNatClampNeg 3) else if w = nI 3 then nI (zof m c.toNatClampNeg 4)
  else if w = nI 4 then nI (znbs m c.toNatClampNeg) else if w = nI 5 then nI (zlns m c.toNatClampNeg) else if w = nI 6 then nI (zcnt m c.toNatClampNeg) else if w = nI 7 then nI (zwr m c.toNatClampNeg).toNat else if w = nI 8 then nI (zcou m c.toNatClampNeg) else -2
theorem zm_country {h : zHp} {m : Nat → Nat} (hR : zR h m) (hB : zB m) (c w : Int32) : zM_47 [.inr 76, .inl c, .inl w] h = some (some (zqCountry m c w), h) := by
  have he := zB_ev hB
  rw [ze_47, zm_no hR hB]
  simp only [Option.bind_some, zpush]
  rw [zb_47_5, zS_b0, Bool.not_not]
  unfold zqCountry
  cases h1 : zth m c with
  | false => rfl
  | true =>
    obtain ⟨n, hn, hn1, rfl⟩ := zth_of h1
    rw [if_pos rfl, if_neg (by decide), zS_cl (show n < 2147483648 by omega)]
    rcases zsw w (n := 8) (by omega) with hx | ⟨k, hk, rfl⟩
    · have hne : ∀ k, k ≤ 8 → w ≠ nI k := by
        intro k hk e
        subst e
        rw [nI_toInt (by omega)] at hx
        omega
      rw [zb_47_11_d _ _ _ _ hx, zb_47_126, if_neg (hne 0 (by omega)), if_neg (hne 1 (by omega)), if_neg (hne 2 (by omega)), if_neg (hne 3 (by omega)), if_neg (hne 4 (by omega)), if_neg (hne 5 (by omega)), if_neg (hne 6 (by omega)), if_neg (hne 7 (by omega)), if_neg (hne 8 (by omega))]
    · have hc : k = 0 ∨ k = 1 ∨ k = 2 ∨ k = 3 ∨ k = 4 ∨ k = 5 ∨ k = 6 ∨ k = 7 ∨ k = 8 := by omega
      have hn8 : n < 8 := by omega
      rcases hc with rfl | rfl | rfl | rfl | rfl | rfl | rfl | rfl | rfl
      · rw [zb_47_11_c0, zm_of hR (by omega)]
        simp only [Option.bind_some, zpush]
        rw [zb_47_66]
        rfl
      · rw [zb_47_11_c1, zm_of hR (by omega)]
        simp only [Option.bind_some, zpush]
        rw [zb_47_73]
        rfl
      · rw [zb_47_11_c2, zm_of hR (by omega)]
        simp only [Option.bind_some, zpush]
        rw [zb_47_80]
        rfl
      · rw [zb_47_11_c3, zm_of hR (by omega)]
        simp only [Option.bind_some, zpush]
        rw [zb_47_87]
        rfl
      · rw [zb_47_11_c4, zm_nbs hR hB hn8]
        simp only [Option.bind_some, zpush]
        rw [zb_47_93]
        rfl
      · rw [zb_47_11_c5, zm_lns hR hB hn8]
        simp only [Option.bind_some, zpush]
        rw [zb_47_99]
        rfl
      · rw [zb_47_11_c6, zm_cnt hR hB hn8]
        simp only [Option.bind_some, zpush]
        rw [zb_47_105]
        rfl
      · rw [zb_47_11_c7, zm_wrong hR hB hn8]
        simp only [Option.bind_some, zpush]
        rw [zb_47_111, zS_b0]
        cases zwr m n <;> rfl
      · rw [zb_47_11_c8, zm_cou hR hB hn8]
        simp only [Option.bind_some, zpush]
        rw [zb_47_125]
        rfl
def zqBorder (m : Nat → Nat) (a b : Int32) : Int32 :=
  if zth m a = false then -1 else if zth m b = false then -1 else if a = b then -2 else nI (zln m a.toNatClampNeg b.toNatClampNeg)
theorem zm_border {h : zHp} {m : Nat → Nat} (hR : zR h m) (hB : zB m) (a b : Int32) : zM_48 [.inr 76, .inl a, .inl b] h = some (some (zqBorder m a b), h) := by
  have he := zB_ev hB
  rw [ze_48, zm_no hR hB]
  simp only [Option.bind_some, zpush]
  rw [zb_48_5, zS_b0n]
  unfold zqBorder
  cases h1 : zth m a with
  | false => rfl
  | true =>
    rw [if_neg (by decide), if_neg (by decide), zm_no hR hB]
    simp only [Option.bind_some, zpush]
    rw [zb_48_13, zS_b0, Bool.not_not]
    cases h2 : zth m b with
    | false => rfl
    | true =>
      obtain ⟨n, hn, hn1, rfl⟩ := zth_of h1
      obtain ⟨k, hk, hk1, rfl⟩ := zth_of h2
      rw [if_pos rfl, if_neg (show ¬ (true = false) by decide), zS_cne (by omega) (by omega)]
      by_cases h3 : n = k
      · rw [decide_eq_true h3, if_neg (by decide), zb_48_34, if_pos (by rw [h3])]
      · rw [decide_eq_false h3, if_pos (by decide), zm_len hR (by omega) (by omega), if_neg (show ¬ nI n = nI k by rw [zS_eq (by omega) (by omega)]; exact h3), zS_cl (show n < 2147483648 by omega), zS_cl (show k < 2147483648 by omega)]
        simp only [Option.bind_some, zpush]
        rw [zb_48_34]
def zqAt (m : Nat → Nat) (n : Int32) : Int32 :=
  if n < nI 0 then -2 else if znb m ≤ n.toNatClampNeg then -5 else nI (zod m n.toNatClampNeg)
theorem zm_borderAt {h : zHp} {m : Nat → Nat} (hR : zR h m) (hB : zB m) (n : Int32) : zM_49 [.inr 76, .inl n] h = some (some (zqAt m n), h) := by
  have hn := zB_nb hB
  have e4 : h 77 (nI 132).toNatClampNeg = nI (znb m) := by rw [zS_cl (by omega), hR 132 (by omega)]; rfl
  rw [ze_49, e4]
  unfold zqAt
  by_cases h1 : n < nI 0
  · have e : zci .ge n (nI 0) = false := by
      show decide (nI 0 ≤ n) = false
      exact decide_eq_false (fun e => absurd h1 (Int32.not_lt.mpr e))
    rw [e, if_neg (by decide), if_pos h1]
  · have e : zci .ge n (nI 0) = true := by
      show decide (nI 0 ≤ n) = true
      exact decide_eq_true (Int32.not_lt.mp h1)
    obtain ⟨k, hk, rfl⟩ := nI_of (x := n) h1
    rw [e, if_pos rfl, if_neg h1, zS_ib _ (by omega), decide_eq_true (by omega), if_pos rfl, zS_cge (by omega) (by omega), zS_cl hk]
    by_cases h2 : znb m ≤ k
    · rw [decide_eq_true h2, if_pos rfl, if_pos h2]
    · rw [decide_eq_false h2, if_neg (by decide), if_neg h2, zS_add, zS_ib _ (by omega), decide_eq_true (by omega), if_pos rfl, zS_cl (by omega), hR _ (by omega)]
      rfl
def zqForb (m : Nat → Nat) (a b : Int32) : Int32 :=
  if zcol a = false then -2 else if zcol b = false then -2 else nI (decide (zbd m a.toNatClampNeg b.toNatClampNeg = 1)).toNat
theorem zm_forb {h : zHp} {m : Nat → Nat} (hR : zR h m) (hB : zB m) (a b : Int32) : zM_50 [.inr 76, .inl a, .inl b] h = some (some (zqForb m a b), h) := by
  rw [ze_50, zm_col]
  simp only [Option.bind_some, zpush]
  rw [zb_50_4, zS_b0]
  unfold zqForb
  cases h1 : zcol a with
  | false => rfl
  | true =>
    rw [if_neg (by decide), if_neg (by decide), zm_col]
    simp only [Option.bind_some, zpush]
    rw [zb_50_11, zS_b0n]
    cases h2 : zcol b with
    | false => rfl
    | true =>
      obtain ⟨n, hn, rfl⟩ := zcol_of h1
      obtain ⟨k, hk, rfl⟩ := zcol_of h2
      rw [if_pos rfl, if_neg (by decide), zm_bad hR hB hn hk, zS_cl (show n < 2147483648 by omega), zS_cl (show k < 2147483648 by omega)]
      simp only [Option.bind_some, zpush]
      rw [zb_50_23, zS_b0]
      cases decide (zbd m n k = 1) <;> rfl
/-- the colours in use -/
def zusedf (m : Nat → Nat) : Nat → Nat → Nat
  | _, 0 => 0
  | c, n + 1 => (if zt m c = true then 2 ^ zof m c 1 else 0) ||| zusedf m (c + 1) n
def zused (m : Nat → Nat) : Nat := zusedf m 0 (zev8 m)
theorem zusedf_lt {m : Nat → Nat} (hB : zB m) : ∀ (n c : Nat), c + n ≤ 8 → zusedf m c n < 2 ^ 4 := by
  intro n
  induction n with
  | zero => intro c _; exact (by decide : 0 < 2 ^ 4)
  | succ n ih =>
    intro c hc
    have h1 := zB_1 hB (c := c) (by omega)
    unfold zusedf
    refine Nat.or_lt_two_pow ?_ (ih (c + 1) (by omega))
    split
    · exact Nat.pow_lt_pow_right (by omega) (by omega)
    · decide
theorem zm_diff1 {h : zHp} {m : Nat → Nat} (hR : zR h m) (hB : zB m) : ∀ (n o acc : Nat), o + n = zev8 m → (acc ||| zusedf m o n) < 256 → zr_59 4 [some (.inr 76), some (.inl (nI acc)), some (.inl (nI o))] [] h = some (some (nI (zbits (acc ||| zusedf m o n))), h) := by
  have he := zB_ev hB
  intro n
  induction n with
  | zero =>
    intro o acc ho hlt
    have e : (acc ||| zusedf m o 0) = acc := by simp [zusedf]
    rw [e] at hlt ⊢
    rw [zb_59_4, zg149, zR_149 hR, zS_cge (by omega) (by omega), if_pos rfl, decide_eq_true (by omega), if_pos rfl, zm_bits h hlt]
    simp only [Option.bind_some, zpush]
    rw [zb_59_49]
  | succ n ih =>
    intro o acc ho hlt
    have e : (acc ||| zusedf m o (n + 1)) = (acc ||| (if zt m o = true then 2 ^ zof m o 1 else 0)) ||| zusedf m (o + 1) n := by
      rw [Nat.or_assoc]
      rfl
    rw [e] at hlt ⊢
    have h3 := zB_1 hB (c := o) (by omega)
    rw [zb_59_4, zg149, zR_149 hR, zS_cge (by omega) (by omega), if_pos rfl, decide_eq_false (by omega), if_neg (by decide), zm_there_n hR hB (by omega)]
    simp only [Option.bind_some, zpush]
    rw [zb_59_22, zS_b0, zS_or, zS_add]
    cases h1 : zt m o with
    | false =>
      rw [h1] at hlt
      rw [if_pos (by decide)]
      exact ih (o + 1) _ (by omega) hlt
    | true =>
      rw [h1, if_pos rfl] at hlt
      rw [if_neg (by decide), zm_of hR (by omega)]
      simp only [Option.bind_some, zpush]
      rw [zb_59_32, zS_shl1 _ (by omega), zS_or, zS_add]
      exact ih (o + 1) _ (by omega) hlt
theorem zm_diff {h : zHp} {m : Nat → Nat} (hR : zR h m) (hB : zB m) : zM_59 [.inr 76] h = some (some (nI (zbits (zused m))), h) := by
  have he := zB_ev hB
  have h1 := zusedf_lt hB (zev8 m) 0 (by omega)
  have := zm_diff1 hR hB (zev8 m) 0 0 (by omega) (by rw [Nat.zero_or]; omega)
  rw [Nat.zero_or] at this
  rw [ze_59, this]
  rfl
/-- the forbidden pairs -/
def zprs (m : Nat → Nat) : Nat := zsum (fun a => zsum (fun b => (decide (zbd m a b = 1)).toNat) 0 (a + 1)) 0 4
theorem zm_prs1 {h : zHp} {m : Nat → Nat} (hR : zR h m) (hB : zB m) {a : Nat} (ha : a < 4) : ∀ (n b acc : Nat), b + n = a + 1 → ∃ d3 : Option zV, zr_60 11 [some (.inr 76), some (.inl (nI acc)), some (.inl (nI a)), some (.inl (nI b))] [] h = zr_60 4 [some (.inr 76), some (.inl (nI (acc + zsum (fun b => (decide (zbd m a b = 1)).toNat) b n))), some (.inl (nI (a + 1))), d3] [] h := by
  intro n
  induction n with
  | zero =>
    intro b acc hb
    refine ⟨some (.inl (nI b)), ?_⟩
    rw [zb_60_11, zS_cgt (by omega) (by omega), decide_eq_true (by omega), if_pos rfl, zS_add]
    simp [zsum]
  | succ n ih =>
    intro b acc hb
    obtain ⟨d3, e1⟩ := ih (b + 1) (acc + (decide (zbd m a b = 1)).toNat) (by omega)
    refine ⟨d3, ?_⟩
    rw [zb_60_11, zS_cgt (by omega) (by omega), decide_eq_false (by omega), if_neg (by decide), zm_bad hR hB ha (by omega)]
    simp only [Option.bind_some, zpush]
    rw [zb_60_23, zS_b0, zS_add, zS_add, zS_add]
    have e2 : acc + zsum (fun b => (decide (zbd m a b = 1)).toNat) b (n + 1) = acc + (decide (zbd m a b = 1)).toNat + zsum (fun b => (decide (zbd m a b = 1)).toNat) (b + 1) n := by
      simp only [zsum, Nat.add_assoc]
    rw [e2, ← e1]
    cases decide (zbd m a b = 1) <;> rfl
theorem zm_prs2 {h : zHp} {m : Nat → Nat} (hR : zR h m) (hB : zB m) : ∀ (n a acc : Nat) (d3 : Option zV), a + n = 4 → zr_60 4 [some (.inr 76), some (.inl (nI acc)), some (.inl (nI a)), d3] [] h = some (some (nI (acc + zsum (fun a => zsum (fun b => (decide (zbd m a b = 1)).toNat) 0 (a + 1)) a n)), h) := by
  intro n
  induction n with
  | zero =>
    intro a acc d3 ha
    rw [zb_60_4, zS_cge (by omega) (by omega), decide_eq_true (by omega), if_pos rfl]
    simp [zsum]
  | succ n ih =>
    intro a acc d3 ha
    obtain ⟨e3, e1⟩ := zm_prs1 hR hB (a := a) (by omega) (a + 1) 0 acc (by omega)
    rw [zb_60_4, zS_cge (by omega) (by omega), decide_eq_false (by omega), if_neg (by decide), e1, ih (a + 1) _ _ (by omega)]
    simp only [zsum, Nat.add_assoc]
theorem zm_prs {h : zHp} {m : Nat → Nat} (hR : zR h m) (hB : zB m) : zM_60 [.inr 76] h = some (some (nI (zprs m)), h) := by
  rw [ze_60, zm_prs2 hR hB 4 0 0 _ (by omega)]
  simp [zprs]
def zqCount (m : Nat → Nat) (nh nt : Nat) (w : Int32) : Int32 :=
  if w = nI 0 then nI (zst m 0) else if w = nI 1 then nI (zev8 m) else if w = nI 2 then nI (znb m) else if w = nI 3 then nI (zov m 2)
  else if w = nI 4 then nI (zov m 0) else if w = nI 5 then nI (zov m 1) else if w = nI 6 then nI (zwrs m) else if w = nI 7 then nI (zst m 1) else if w = nI 8 then nI (zbits (zused m)) else if w = nI 9 then nI (zprs m) else if w = nI 10 then nI nh else if w = nI 11 then nI nt else -2
theorem zm_count {h : zHp} {m : Nat → Nat} {hs : List (Nat → Nat)} {sn : Option (Nat → Nat)} {tx : List Nat} (hV : zMV h m hs sn tx) (hB : zB m) (w : Int32) : zM_61 [.inr 76, .inl w] h = some (some (zqCount m hs.length tx.length w), h) := by
  have hR := hV.1
  have he := zB_ev hB
  rw [ze_61]
  unfold zqCount
  rcases zsw w (n := 11) (by omega) with hx | ⟨k, hk, rfl⟩
  · have hne : ∀ k, k ≤ 11 → w ≠ nI k := by
      intro k hk e
      subst e
      rw [nI_toInt (by omega)] at hx
      omega
    rw [zb_61_1_d _ _ _ hx, zb_61_137, if_neg (hne 0 (by omega)), if_neg (hne 1 (by omega)), if_neg (hne 2 (by omega)), if_neg (hne 3 (by omega)), if_neg (hne 4 (by omega)), if_neg (hne 5 (by omega)), if_neg (hne 6 (by omega)), if_neg (hne 7 (by omega)), if_neg (hne 8 (by omega)), if_neg (hne 9 (by omega)), if_neg (hne 10 (by omega)), if_neg (hne 11 (by omega))]
  · have hc : k = 0 ∨ k = 1 ∨ k = 2 ∨ k = 3 ∨ k = 4 ∨ k = 5 ∨ k = 6 ∨ k = 7 ∨ k = 8 ∨ k = 9 ∨ k = 10 ∨ k = 11 := by omega
    rcases hc with rfl | rfl | rfl | rfl | rfl | rfl | rfl | rfl | rfl | rfl | rfl | rfl
    · rw [zb_61_1_c0, zm_set hR hB (by omega)]
      simp only [Option.bind_some, zpush]
      rw [zb_61_69]
      rfl
    · rw [zb_61_1_c1, zg149, zR_149 hR]
      rfl
    · rw [zb_61_1_c2, zg132, zR_132 hR]
      rfl
    · rw [zb_61_1_c3, zm_ov hR hB (by omega)]
      simp only [Option.bind_some, zpush]
      rw [zb_61_93]
      rfl
    · rw [zb_61_1_c4, zm_ov hR hB (by omega)]
      simp only [Option.bind_some, zpush]
      rw [zb_61_99]
      rfl
    · rw [zb_61_1_c5, zm_ov hR hB (by omega)]
      simp only [Option.bind_some, zpush]
      rw [zb_61_105]
      rfl
    · rw [zb_61_1_c6, zm_wrs hR hB]
      simp only [Option.bind_some, zpush]
      rw [zb_61_110]
      rfl
    · rw [zb_61_1_c7, zm_set hR hB (by omega)]
      simp only [Option.bind_some, zpush]
      rw [zb_61_116]
      rfl
    · rw [zb_61_1_c8, zm_diff hR hB]
      simp only [Option.bind_some, zpush]
      rw [zb_61_121]
      rfl
    · rw [zb_61_1_c9, zm_prs hR hB]
      simp only [Option.bind_some, zpush]
      rw [zb_61_126]
      rfl
    · rw [zb_61_1_c10, hV.2.1.1]
      rfl
    · rw [zb_61_1_c11, hV.2.2.2.1.1]
      rfl
