/-! The repainter of the class: its copy of the state, what is open, who the neighbours are. -/
theorem zn_there3 {h : zHp} {m : Nat → Nat} (hS : zSr h 63 m) (hB : zB m) (c : Int32) : zM_70 [.inr 63, .inl c] h = some (some (nI (zth m c).toNat), h) := by
  have he := zB_ev hB
  rw [ze_70_t63, zn_num]
  simp only [Option.bind_some, zpush]
  rw [zb_70_4_1, zS_b0, zS_bo0, zth_num hB, hS.1.2.1]
  cases h1 : znum c with
  | false => rfl
  | true =>
    unfold znum at h1
    simp only [Bool.and_eq_true, Bool.not_eq_true', decide_eq_false_iff_not, decide_eq_true_eq] at h1
    obtain ⟨k, hk, rfl⟩ := nI_of (x := c) h1.1
    rw [zS_cl hk] at h1 ⊢
    rw [if_neg (by decide), zn_has h (zst_lt he 0) h1.2, zst_bit]
    simp only [Option.bind_some, zpush]
    rw [zb_70_15, zS_b0, zS_bo0, zS_bo1]
    cases zt m k <;> rfl
theorem zn_fixed3 {h : zHp} {m : Nat → Nat} (hS : zSr h 63 m) (hB : zB m) {c : Nat} (hc : c < 8) : zM_71 [.inr 63, .inl (nI c)] h = some (some (nI (zt m c && decide (zof m c 4 = 1)).toNat), h) := by
  rw [ze_71_t63, hS.1.2.2, zn_has h (zst_lt (zB_ev hB) 1) hc, zst1_bit]
  simp only [Option.bind_some, zpush]
  rw [zb_71_8, zS_bo, if_pos rfl]
theorem zn_nbs31 {h : zHp} {m : Nat → Nat} (hS : zSr h 63 m) (hI : zI m) {c : Nat} (hc : c < 8) : ∀ (n k acc : Nat), k + n = znb m → zr_72 4 [some (.inr 68), some (.inl (nI c)), some (.inl (nI acc)), some (.inl (nI k))] [] h = some (some (nI (acc ||| zorl m c k n)), h) := by
  have hn := zB_nb hI.1
  have h6 : h 68 0 = nI (znb m) := hS.2.2.2.1
  intro n
  induction n with
  | zero =>
    intro k acc hk
    rw [zb_72_4_1, h6, zS_cge (by omega) (by omega), decide_eq_true (by omega), if_pos rfl]
    simp [zorl]
  | succ n ih =>
    intro k acc hk
    obtain ⟨q1, q2, q3⟩ := hS.2.2.2.2 k (by omega)
    obtain ⟨l, g, p1, p2, p3, p4⟩ := hI.2.2.2.2.2.2.2.1 k (by omega)
    have q1 : h 69 k = nI (zod m k / 10) := q1
    have q2 : h 70 k = nI (zod m k % 10) := q2
    rw [zb_72_4_1, h6, zS_cge (by omega) (by omega), decide_eq_false (by omega), if_neg (by decide), zS_ib _ (by omega), decide_eq_true (by omega), if_pos rfl, if_pos rfl, if_pos rfl, if_pos rfl, zS_cl (by omega), q1, q2, zS_cne (by omega) (by omega), zS_cne (by omega) (by omega), zS_add, zS_shl1 _ (by omega), zS_shl1 _ (by omega), zS_or, zS_or]
    have e1 : (acc ||| zorl m c k (n + 1)) = (acc ||| zend m c k) ||| zorl m c (k + 1) n := by
      rw [Nat.or_assoc]
      rfl
    rw [e1]
    unfold zend
    by_cases h3 : zod m k / 10 = c
    · rw [decide_eq_true h3, if_neg (by decide), if_pos h3]
      exact ih (k + 1) _ (by omega)
    · rw [decide_eq_false h3, if_pos (by decide), if_neg h3]
      by_cases h4 : zod m k % 10 = c
      · rw [decide_eq_true h4, if_neg (by decide), if_pos h4]
        exact ih (k + 1) _ (by omega)
      · rw [decide_eq_false h4, if_pos (by decide), if_neg h4, Nat.or_zero]
        exact ih (k + 1) _ (by omega)
theorem zn_nbs3 {h : zHp} {m : Nat → Nat} (hS : zSr h 63 m) (hI : zI m) {c : Nat} (hc : c < 8) : zM_72 [.inr 68, .inl (nI c)] h = some (some (nI (znbs m c)), h) := by
  rw [ze_72_t68, zn_nbs31 hS hI hc (znb m) 0 0 (by omega), Nat.zero_or, zorl_nbs hI hc]
/-- what is open to a country by itself -/
def zopn (m : Nat → Nat) (c : Nat) : Nat := if zof m c 4 = 1 then zof m c 2 &&& 2 ^ zof m c 1 else zof m c 2
theorem zn_prp1 {m : Nat → Nat} (hI : zI m) (d1 : Option zV) : ∀ (n k : Nat) (g : zHp), k + n = 8 → zSr g 63 m → (∀ c, c < k → zt m c = true → g 72 c = nI (zopn m c)) → (∀ c, c < k → g 73 c = nI (znbs m c)) → ∃ g', zr_102 10 [some (.inr 62), d1, some (.inl (nI k))] [] g = some (none, g') ∧ zSr g' 63 m ∧ (∀ c, c < 8 → zt m c = true → g' 72 c = nI (zopn m c)) ∧ (∀ c, c < 8 → g' 73 c = nI (znbs m c)) ∧ ∀ b j, b ≠ 72 → b ≠ 73 → g' b j = g b j := by
  intro n
  induction n with
  | zero =>
    intro k g hk hS h1 h2
    have hk : k = 8 := by omega
    subst hk
    refine ⟨g, ?_, hS, h1, h2, fun _ _ _ _ => rfl⟩
    rw [zb_102_10, zS_cge (by omega) (by omega), decide_eq_true (by omega), if_pos rfl]
  | succ n ih =>
    intro k g hk hS h1 h2
    have hk8 : k < 8 := by omega
    have S1 : zSr (zup g 72 k (g 65 k)) 63 m := zSr_fr hS (fun b j x y => zS_zup_ne _ (by omega) _ _ _)
    rw [zb_102_10, zS_cge (by omega) (by omega), decide_eq_false (by omega), if_neg (by decide), zS_ib _ (by omega), decide_eq_true hk8, if_pos rfl, if_pos rfl, zS_cl (by omega), zn_fixed3 S1 hI.1 hk8]
    simp only [Option.bind_some, zpush]
    rw [zb_102_39, zS_b0]
    have fin : ∀ v, zSr (zup g 72 k v) 63 m → (zt m k = true → v = nI (zopn m k)) → ∃ g', (zM_72 [.inr 68, .inl (nI k)] (zup g 72 k v)).bind (fun r => zr_102 78 [some (.inr 62), d1, some (.inl (nI k))] (zpush r.1 [.inl (nI k), .inr 73]) r.2) = some (none, g') ∧ zSr g' 63 m ∧ (∀ c, c < 8 → zt m c = true → g' 72 c = nI (zopn m c)) ∧ (∀ c, c < 8 → g' 73 c = nI (znbs m c)) ∧ ∀ b j, b ≠ 72 → b ≠ 73 → g' b j = g b j := by
      intro v Sv hv
      obtain ⟨g', r1, r2, r3, r4, r5⟩ := ih (k + 1) (zup (zup g 72 k v) 73 k (nI (znbs m k))) (by omega) (zSr_fr Sv (fun b j x y => zS_zup_ne _ (by omega) _ _ _)) (fun c hc htc => by
        rw [zS_zup_ne _ (by omega)]
        by_cases hq : c = k
        · subst hq
          rw [zS_zup_same]
          exact hv htc
        · rw [zS_zup_nk _ _ hq]
          exact h1 c (by omega) htc) (fun c hc => by
        by_cases hq : c = k
        · subst hq
          rw [zS_zup_same]
        · rw [zS_zup_nk _ _ hq, zS_zup_ne _ (by omega)]
          exact h2 c (by omega))
      refine ⟨g', ?_, r2, r3, r4, fun b j x y => by rw [r5 b j x y, zS_zup_ne _ y, zS_zup_ne _ x]⟩
      rw [zn_nbs3 Sv hI hk8]
      simp only [Option.bind_some, zpush]
      rw [zb_102_78, zS_ib _ (by omega), decide_eq_true hk8, if_pos rfl, zS_cl (by omega), zS_add]
      exact r1
    cases hf : (zt m k && decide (zof m k 4 = 1)) with
    | false =>
      rw [if_pos (by decide)]
      refine fin _ S1 (fun ht => ?_)
      rw [ht, Bool.true_and] at hf
      have v2 : g 65 k = nI (zof m k 2) := (hS.2.1 k hk8 ht).2.1
      unfold zopn
      rw [v2, if_neg (of_decide_eq_false hf)]
    | true =>
      rw [Bool.and_eq_true] at hf
      have v1 : g 64 k = nI (zof m k 1) := (hS.2.1 k hk8 hf.1).1
      have v2 : g 65 k = nI (zof m k 2) := (hS.2.1 k hk8 hf.1).2.1
      have b1 := zB_1 hI.1 hk8
      rw [if_neg (by decide), zS_ib _ (by omega), decide_eq_true hk8, if_pos rfl, if_pos rfl, if_pos rfl, zS_cl (by omega), zS_zup_same, zup_up, zS_zup_ne _ (by omega), v1, v2, zS_shl1 _ (by omega), zS_and]
      refine fin _ (zSr_fr hS (fun b j x y => zS_zup_ne _ (by omega) _ _ _)) (fun ht => ?_)
      unfold zopn
      rw [if_pos (of_decide_eq_true hf.2)]
theorem zn_prp {h : zHp} {m : Nat → Nat} (hS : zSr h 1 m) (hI : zI m) : ∃ g, zM_102 [.inr 62, .inr 1] h = some (none, g) ∧ zSr g 63 m ∧ (∀ c, c < 8 → zt m c = true → g 72 c = nI (zopn m c)) ∧ (∀ c, c < 8 → g 73 c = nI (znbs m c)) ∧ ∀ b j, b < 63 ∨ 74 ≤ b → g b j = h b j := by
  obtain ⟨k1, k2⟩ := zc64_S (d := 63) (s := 1) (by omega) hI.1 hS
  have start := ze_102 h
  rw [zcf_63_1 h] at start
  simp only [Option.bind_some, zpush] at start
  rw [zb_102_8] at start
  obtain ⟨g', r1, r2, r3, r4, r5⟩ := zn_prp1 hI (some (.inr 1)) 8 0 _ (by omega) k1 (fun c hc => by omega) (fun c hc => by omega)
  exact ⟨g', start.trans r1, r2, r3, r4, fun b j hb => by rw [r5 b j (by omega) (by omega), k2 b j (by omega)]⟩
theorem zCV_se {h h' : zHp} {m : Nat → Nat} {hs : List (Nat → Nat)} {sn : Option (Nat → Nat)} {tx : List Nat} (hV : zCV h m hs sn tx) (hf : ∀ b j, b < 62 → h' b j = h b j) : zCV h' m hs sn tx := zCV_now hV (zSr_fr hV.1 (fun b j x y => hf b j (by omega))) (fun b j hb => hf b j (by omega))
