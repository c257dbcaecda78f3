/-! The questions of the class that search: leastRepaint, repainted, wouldCost, repaints; repaint. -/
def zp0 : Nat → Nat := fun _ => 0
theorem zNC_b {m : Nat → Nat} (hI : zI m) : zNC m (zopn m) (znbs m) := fun c hc ht => by
  have he := zB_ev hI.1
  refine ⟨zopn_lt hI.1 hc, zset8_lt _ he, fun o ho hb => ?_⟩
  rw [znbs_bit hI hc ho] at hb
  have hb := of_decide_eq_true hb
  refine ⟨(zI_ev hI hc ho hb).2, ?_⟩
  rw [znbs_bit hI ho hc, hI.2.2.2.1 o c ho hc]
  exact decide_eq_true hb
theorem znI5 : ∀ i, i < 8 → nI i ≠ -5 := by decide +kernel
theorem zgs_b {m : Nat → Nat} (hI : zI m) : zgs m (zopn m) (znbs m) 8 0 zp0 = zEs m := by
  have he := zB_ev hI.1
  have := zgs_sol (m := m) (op := zopn m) (nb := znbs m) (e1 := -5) (e2 := -5) (fun i p v hi ht hv hp => zfit_cof hI (fun i o hi ho ht => by
    rw [znbs_bit hI hi (by omega)]
    unfold zadj
    rw [decide_eq_false (znI5 i hi), Bool.false_and, Bool.or_false, Bool.or_false]
    by_cases hl : 0 < zln m i o
    · rw [(zI_ev hI hi (show o < 8 by omega) hl).2, decide_eq_true hl]
      rfl
    · rw [decide_eq_false hl, Bool.and_false]) i p v hi ht hv hp) (zev8 m) 0 zp0 (by omega) (fun _ _ => rfl) (fun o ho => by omega)
  rw [show zev8 m + (8 - zev8 m) = 8 by omega] at this
  exact this
theorem zn_fl {g : zHp} {m op nb : Nat → Nat} (hI : zI m) (hN : zNC m op nb) (hR : zRP g m op nb) : ∃ g', zM_114 [.inr 62] g = some (some (nI (zbs m (zgs m op nb 8 0 zp0)).isSome.toNat), g') ∧ zBs g' m (zbs m (zgs m op nb 8 0 zp0)) ∧ ∀ x j, x < 62 ∨ (62 < x ∧ x < 74) ∨ 76 ≤ x → g' x j = g x j := by
  have hf : ∀ x j, x ≠ 62 → zup g 62 6 (nI 0) x j = g x j := fun x j hx => zS_zup_ne _ hx _ _ _
  obtain ⟨h', r1, r2, r3⟩ := zfl_top hI hN 0 zp0 (zup g 62 6 (nI 0)) none (by omega) (zRP_fr hR (fun b j x y => hf b j (by omega))) (fun o ho _ => by omega) ⟨zS_zup_same _ _ _ _, fun q hq => by cases hq⟩
  have e0 : zpc m zp0 0 = 0 := rfl
  rw [e0] at r1
  refine ⟨h', ?_, r2, fun x j hx => ?_⟩
  · rw [ze_114, zS_bo0, if_pos rfl, r1]
    simp only [Option.bind_some, zpush]
    rw [zb_114_11, r2.1, zS_bo, if_pos rfl]
    rfl
  · rw [r3.1 x j (by omega) (by omega) (by omega), hf x j (by omega)]
theorem zn_cnt8 {g : zHp} {m op nb : Nat → Nat} (hB : zB m) (hN : zNC m op nb) (hR : zRP g m op nb) : ∃ g', zM_150 [.inr 62] g = some (some (nI (zgs m op nb 8 0 zp0).length), g') ∧ ∀ x j, x ≠ 74 → g' x j = g x j := by
  obtain ⟨h', r1, r2⟩ := zqc_top hB hN 0 zp0 g (by omega) hR (fun o ho => by omega)
  refine ⟨h', ?_, fun x j hx => r2 x j (by omega)⟩
  rw [ze_150, r1]
  simp only [Option.bind_some, zpush]
  rw [zb_150_5]
theorem zn_can8 {g : zHp} {m op nb : Nat → Nat} (hB : zB m) (hN : zNC m op nb) (hR : zRP g m op nb) : ∃ g', zM_162 [.inr 62] g = some (some (nI (zne (zgs m op nb 8 0 zp0)).toNat), g') ∧ ∀ x j, x ≠ 74 → g' x j = g x j := by
  obtain ⟨h', r1, r2⟩ := zqn_top hB hN 0 zp0 g (by omega) hR (fun o ho => by omega)
  refine ⟨h', ?_, fun x j hx => r2 x j (by omega)⟩
  rw [ze_162, r1]
  simp only [Option.bind_some, zpush]
  rw [zb_162_5, zS_bo, if_pos rfl]
/-- prepared, and the least repaint found -/
theorem zn_prl {h : zHp} {m : Nat → Nat} {hs : List (Nat → Nat)} {sn : Option (Nat → Nat)} {tx : List Nat} (hV : zCV h m hs sn tx) (hI : zI m) : ∃ g g', zM_102 [.inr 62, .inr 1] h = some (none, g) ∧ zM_114 [.inr 62] g = some (some (nI (zbs m (zEs m)).isSome.toNat), g') ∧ zBs g' m (zbs m (zEs m)) ∧ zSr g' 63 m ∧ zCV g' m hs sn tx ∧ zhi h g' := by
  obtain ⟨g, r1, r2, r3, r4, r5⟩ := zn_prp hV.1 hI
  obtain ⟨g', s1, s2, s3⟩ := zn_fl hI (zNC_b hI) (⟨r2, r3, fun c hc _ => r4 c hc⟩ : zRP g m (zopn m) (znbs m))
  rw [zgs_b hI] at s1 s2
  exact ⟨g, g', r1, s1, s2, zSr_fr r2 (fun b j x y => s3 b j (by omega)), zCV_se hV (fun b j hb => by rw [s3 b j (by omega), r5 b j (by omega)]), fun b hb j => by rw [s3 b j (by omega), r5 b j (by omega)]⟩
theorem zn_chg1 {h : zHp} {m q : Nat → Nat} (hS : zSr h 63 m) (hB : zB m) (hq : ∀ c, c < zev8 m → q c < 4) (h75 : ∀ c, c < 8 → zt m c = true → h 75 c = nI (q c)) : ∀ (n k acc : Nat), k + n = 8 → zr_134 4 [some (.inr 62), some (.inl (nI acc)), some (.inl (nI k))] [] h = some (some (nI (acc ||| zset8 (fun c => zt m c && !decide (q c = zof m c 1)) k n)), h) := by
  intro n
  induction n with
  | zero =>
    intro k acc hk
    rw [zb_134_4, zS_cge (by omega) (by omega), decide_eq_true (by omega), if_pos rfl]
    simp [zset8]
  | succ n ih =>
    intro k acc hk
    have ex : zth m (nI k) = zt m k := zth_nI (by omega)
    rw [zb_134_4, zS_cge (by omega) (by omega), decide_eq_false (by omega), if_neg (by decide), zn_there3 hS hB, ex]
    simp only [Option.bind_some, zpush]
    rw [zb_134_18, zS_b0, zS_add]
    cases h1 : zt m k with
    | false =>
      rw [if_pos (by decide), ih (k + 1) _ (by omega)]
      simp [zset8, h1]
    | true =>
      have c1 : h 64 k = nI (zof m k 1) := (hS.2.1 k (by omega) h1).1
      have b1 := zB_1 hB (show k < 8 by omega)
      have b2 := hq k (zt_lt h1)
      rw [if_neg (by decide), zS_ib _ (by omega), decide_eq_true (show k < 8 by omega), if_pos rfl, if_pos rfl, zS_cl (by omega), c1, h75 k (by omega) h1, zS_ceq (by omega) (by omega), zS_shl1 _ (by omega), zS_or]
      by_cases h2 : q k = zof m k 1
      · rw [decide_eq_true h2, if_pos rfl, ih (k + 1) _ (by omega)]
        simp [zset8, h1, h2]
      · rw [decide_eq_false h2, if_neg (by decide), ih (k + 1) _ (by omega)]
        simp [zset8, h1, h2, Nat.or_assoc]
theorem zn_chg {h : zHp} {m q : Nat → Nat} (hS : zSr h 63 m) (hB : zB m) (hq : ∀ c, c < zev8 m → q c < 4) (h75 : ∀ c, c < 8 → zt m c = true → h 75 c = nI (q c)) : zM_134 [.inr 62] h = some (some (nI (zchg m q)), h) := by
  have he := zB_ev hB
  rw [ze_134, zn_chg1 hS hB hq h75 8 0 0 (by omega), Nat.zero_or]
  have : zset8 (fun c => zt m c && !decide (q c = zof m c 1)) 0 8 = zchg m q := zset8_congr (fun j => by
    cases h : zt m j with
    | false => simp
    | true =>
      have := zt_lt h
      simp [this, show j < 8 by omega])
  rw [this]
theorem zn_least {h : zHp} {m : Nat → Nat} {hs : List (Nat → Nat)} {sn : Option (Nat → Nat)} {tx : List Nat} (hV : zCV h m hs sn tx) (hI : zI m) (w : Int32) : zCAns (zM_135 [.inr 0, .inl w]) (zqLeast m w, none) h m hs sn tx := by
  have e1 := ze_135 w h
  rw [zrg_ite w (by omega) (by omega)] at e1
  unfold zqLeast
  cases h1 : zrg w (nI 0) (nI 1) with
  | false =>
    rw [h1, if_pos rfl] at e1
    exact zCAns_no hV e1
  | true =>
  obtain ⟨k, hk0, hk, rfl⟩ := zrg_of (v := w) (a := 0) (b := 1) (by omega) (by omega) h1
  obtain ⟨g, g', r1, r2, r3, r4, r5, r6⟩ := zn_prl hV hI
  rw [h1, if_neg (by decide), r1] at e1
  simp only [Option.bind_some, zpush] at e1
  rw [zb_135_23, r2] at e1
  simp only [Option.bind_some, zpush] at e1
  rw [zb_135_30, zS_b0n, zS_cne (by omega) (by omega)] at e1
  rw [if_neg (by decide)]
  cases hb : zbs m (zEs m) with
  | none =>
    rw [hb, if_neg (by decide)] at e1
    exact ⟨g', e1, r5, r6⟩
  | some q =>
    rw [hb] at r3
    rw [hb, if_pos (show (some q).isSome = true from rfl)] at e1
    show zCAns _ ((if nI k = nI 0 then nI (zcost m q) else nI (zchg m q)), none) h m hs sn tx
    by_cases hk1 : k = 0
    · rw [decide_eq_true hk1, if_neg (by decide), zb_135_57, (r3.2 q rfl).1] at e1
      rw [if_pos (by rw [hk1])]
      exact ⟨g', e1, r5, r6⟩
    · rw [decide_eq_false hk1, if_pos (by decide), zn_chg r4 hI.1 (zE_lt hb) (r3.2 q rfl).2] at e1
      simp only [Option.bind_some, zpush] at e1
      rw [zb_135_57] at e1
      rw [if_neg (znI_ne (by omega) (by omega) hk1)]
      exact ⟨g', e1, r5, r6⟩
theorem zn_rpd {h : zHp} {m : Nat → Nat} {hs : List (Nat → Nat)} {sn : Option (Nat → Nat)} {tx : List Nat} (hV : zCV h m hs sn tx) (hI : zI m) (c : Int32) : zCAns (zM_136 [.inr 0, .inl c]) (zqRpd m c, none) h m hs sn tx := by
  have he := zB_ev hI.1
  have e1 := ze_136 c h
  rw [zn_there hV.1 hI.1] at e1
  simp only [Option.bind_some, zpush] at e1
  rw [zb_136_8, zS_b0n] at e1
  unfold zqRpd
  cases h1 : zth m c with
  | false =>
    rw [h1, if_neg (by decide)] at e1
    exact zCAns_no hV e1
  | true =>
  obtain ⟨n, hn, hn1, rfl⟩ := zth_of h1
  obtain ⟨g, g', r1, r2, r3, r4, r5, r6⟩ := zn_prl hV hI
  rw [h1, if_pos rfl, r1] at e1
  simp only [Option.bind_some, zpush] at e1
  rw [zb_136_24, r2] at e1
  simp only [Option.bind_some, zpush] at e1
  rw [zb_136_31, zS_b0n] at e1
  rw [if_neg (by decide), zS_cl (show n < 2147483648 by omega)]
  cases hb : zbs m (zEs m) with
  | none =>
    rw [hb, if_neg (by decide)] at e1
    exact ⟨g', e1, r5, r6⟩
  | some q =>
    rw [hb] at r3
    rw [hb, if_pos (show (some q).isSome = true from rfl), zS_ib _ (by omega), decide_eq_true (show n < 8 by omega), if_pos rfl, zS_cl (by omega), (r3.2 q rfl).2 n (by omega) (zt_of hn hn1)] at e1
    exact ⟨g', e1, r5, r6⟩
theorem zn_rps {h : zHp} {m : Nat → Nat} {hs : List (Nat → Nat)} {sn : Option (Nat → Nat)} {tx : List Nat} (hV : zCV h m hs sn tx) (hI : zI m) : zCAns (zM_151 [.inr 0]) (zqRps m, none) h m hs sn tx := by
  obtain ⟨g, r1, r2, r3, r4, r5⟩ := zn_prp hV.1 hI
  obtain ⟨g', s1, s2⟩ := zn_cnt8 hI.1 (zNC_b hI) (⟨r2, r3, fun c hc _ => r4 c hc⟩ : zRP g m (zopn m) (znbs m))
  rw [zgs_b hI] at s1
  have e1 := ze_151 h
  rw [r1] at e1
  simp only [Option.bind_some, zpush] at e1
  rw [zb_151_11, s1] at e1
  simp only [Option.bind_some, zpush] at e1
  rw [zb_151_18] at e1
  exact ⟨g', e1, zCV_se hV (fun b j hb => by rw [s2 b j (by omega), r5 b j (by omega)]), fun b hb j => by rw [s2 b j (by omega), r5 b j (by omega)]⟩
theorem zn_rpp1 {m q : Nat → Nat} (hI : zI m) (hq : ∀ c, c < zev8 m → q c < 4) {cost : Nat} : ∀ (n k : Nat) (h : zHp), k + n = 8 → zSr h 1 (zmPt m q k) → zB (zmPt m q k) → (∀ c, c < 8 → zt m c = true → h 75 c = nI (q c)) → h 62 5 = nI cost → (∀ k, k ≤ 8 → zB (zmPt m q k)) → ∃ h', zr_115 50 [some (.inr 0), some (.inl (nI k))] [] h = some (some (nI cost), h') ∧ zSr h' 1 (zmPt m q 8) ∧ ∀ b j, b ≠ 2 → h' b j = h b j := by
  intro n
  induction n with
  | zero =>
    intro k h hk hS hB h75 h5 hBa
    have hk : k = 8 := by omega
    subst hk
    refine ⟨h, ?_, hS, fun _ _ _ => rfl⟩
    rw [zb_115_50, zS_cge (by omega) (by omega), decide_eq_true (by omega), if_pos rfl, h5]
  | succ n ih =>
    intro k h hk hS hB h75 h5 hBa
    have ex : zth (zmPt m q k) (nI k) = zt m k := (zth_nI (by omega)).trans (zt_Pt m q (by omega) k)
    have es := zmPt_step m q k
    rw [zb_115_50, zS_cge (by omega) (by omega), decide_eq_false (by omega), if_neg (by decide), zn_there hS hB, ex]
    simp only [Option.bind_some, zpush]
    rw [zb_115_64, zS_b0, zS_add]
    cases h1 : zt m k with
    | false =>
      rw [h1, if_neg (by decide)] at es
      rw [if_pos (by decide)]
      exact ih (k + 1) h (by omega) (by rw [es]; exact hS) (by rw [es]; exact hB) h75 h5 hBa
    | true =>
      rw [h1, if_pos rfl] at es
      rw [if_neg (by decide), zS_ib _ (by omega), decide_eq_true (show k < 8 by omega), if_pos rfl, if_pos rfl, zS_cl (by omega), h75 k (by omega) h1]
      obtain ⟨h', r1, r2, r3⟩ := ih (k + 1) (zup h 2 k (nI (q k))) (by omega) (by rw [es]; exact zSr_col hS (by omega)) (hBa _ (by omega)) (fun c hc ht => by rw [zS_zup_ne _ (by omega)]; exact h75 c hc ht) (by rw [zS_zup_ne _ (by omega)]; exact h5) hBa
      exact ⟨h', r1, r2, fun b j hb => (r3 b j hb).trans (zS_zup_ne _ hb _ _ _)⟩
theorem zmPt_8 {m q : Nat → Nat} {k : Nat} (he : zev8 m ≤ k) : zmPt m q k = zmPt m q (zev8 m) := by
  funext j
  unfold zmPt
  by_cases hq : j < 5 * zev8 m ∧ j % 5 = 1 ∧ zt m (j / 5) = true
  · rw [if_pos hq, if_pos ⟨by omega, hq.2⟩]
  · rw [if_neg hq, if_neg (fun e => hq ⟨by
      have := zt_lt e.2.2
      omega, e.2⟩)]
theorem zn_rp {h : zHp} {m : Nat → Nat} {hs : List (Nat → Nat)} {sn : Option (Nat → Nat)} {tx : List Nat} (hV : zCV h m hs sn tx) (hI : zI m) : zCAns (zM_115 [.inr 0]) (zoRp m) h m hs sn tx := by
  have he := zB_ev hI.1
  obtain ⟨g, g', r1, r2, r3, r4, r5, r6⟩ := zn_prl hV hI
  have e1 := ze_115 h
  rw [r1] at e1
  simp only [Option.bind_some, zpush] at e1
  rw [zb_115_11, r2] at e1
  simp only [Option.bind_some, zpush] at e1
  rw [zb_115_18, zS_b0n] at e1
  unfold zoRp
  cases hb : zbs m (zEs m) with
  | none =>
    rw [hb, if_neg (by decide)] at e1
    exact ⟨g', e1, r5, r6⟩
  | some q =>
    have hwl : zwrs m < 256 := zset8_lt _ he
    rw [hb] at r3
    rw [hb, if_pos (show (some q).isSome = true from rfl), zn_wrs r5.1 hI] at e1
    simp only [Option.bind_some, zpush] at e1
    rw [zb_115_31, zS_cne (by omega) (by omega)] at e1
    show zCAns _ (if zwrs m = 0 then (-5, none) else (nI (zcost m q), some (zmPt m q (zev8 m)))) h m hs sn tx
    by_cases hw : zwrs m = 0
    · rw [decide_eq_true hw, if_neg (by decide)] at e1
      rw [if_pos hw]
      exact ⟨g', e1, r5, r6⟩
    · obtain ⟨h2, p1, p2, p3⟩ := zn_remW r5 hI.1
      rw [decide_eq_false hw, if_pos (by decide), p1] at e1
      simp only [Option.bind_some, zpush] at e1
      rw [if_neg hw]
      have hBa : ∀ k, k ≤ 8 → zB (zmPt m q k) := fun k hk => by
        rcases Nat.lt_or_ge k (zev8 m) with a | a
        · exact (zI_pt hI (zE_lt hb) k (by omega)).1
        · rw [zmPt_8 a]
          exact (zI_pt hI (zE_lt hb) (zev8 m) (Nat.le_refl _)).1
      obtain ⟨h', s1, s2, s3⟩ := zn_rpp1 hI (zE_lt hb) (cost := zcost m q) 8 0 h2 (by omega) (by rw [zmPt_0]; exact p2.1) (hBa 0 (by omega)) (fun c hc ht => by rw [p3 _ _ (by omega)]; exact (r3.2 q rfl).2 c hc ht) (by rw [p3 _ _ (by omega)]; exact (r3.2 q rfl).1) hBa
      rw [zb_115_48, s1] at e1
      rw [zmPt_8 he] at s2
      exact ⟨h', e1, zCV_now p2 s2 (fun b j hb => s3 b j (by omega)), fun b hb j => by rw [s3 b j (by omega), p3 b j (by omega), r6 b hb j]⟩
