/-! lays. -/
/-- but for the row nothing changes -/
def zk7 (h h' : zHp) : Prop := ∀ b j, b ≠ 77 → h' b j = h b j
theorem zk7_rf (h : zHp) : zk7 h h := fun _ _ _ => rfl
theorem zk7_tr {h h' h'' : zHp} (a : zk7 h h') (b : zk7 h' h'') : zk7 h h'' := fun c j q => by rw [b c j q, a c j q]
theorem zk7_up {h h' : zHp} (a : zk7 h h') (j : Nat) (x : Int32) : zk7 h (zup h' 77 j x) := fun c i q => by rw [zS_zup_ne _ q, a c i q]
theorem zsf_step (m : Nat → Nat) {p x : Nat} (hp : p ≤ x) : zu (zsf m p x) (104 + x) (zsf m p x (104 + x + 1)) = zsf m p (x + 1) := by
  funext j
  unfold zu zsf
  by_cases h1 : j = 104 + x
  · subst h1
    rw [if_pos rfl, if_neg (by omega), if_pos (by omega)]
  · rw [if_neg h1]
    by_cases h2 : 104 + p ≤ j ∧ j < 104 + x
    · rw [if_pos h2, if_pos (by omega)]
    · rw [if_neg h2, if_neg (by omega)]
theorem zsf_0 (m : Nat → Nat) (p : Nat) : zsf m p p = m := by
  funext j
  unfold zsf
  rw [if_neg (by omega)]
theorem zm_lays3 {m : Nat → Nat} {hs : List (Nat → Nat)} {sn : Option (Nat → Nat)} {tx : List Nat} {p N : Nat} (hN : m 132 = N) (hN28 : N ≤ 27) : ∀ (n x : Nat) (h : zHp) (d1 d2 d3 d4 d5 : Option zV), x + n = N → p ≤ x → zMV h (zsf m p x) hs sn tx → ∃ h', zr_22 135 [some (.inr 76), d1, d2, d3, d4, d5, some (.inl (nI x))] [] h = some (none, h') ∧ zMV h' (zsf m p N) hs sn tx ∧ zk7 h h' := by
  intro n
  induction n with
  | zero =>
    intro x h d1 d2 d3 d4 d5 hx hp hV
    have hx : x = N := by omega
    subst hx
    have h1 : zsf m p x 132 = x := by unfold zsf; rw [if_neg (by omega), hN]
    refine ⟨h, ?_, hV, zk7_rf h⟩
    rw [zb_22_135, zS_ib _ (by omega), zS_cl (by omega), hV.1 132 (by omega), h1, zS_cge (by omega) (by omega), decide_eq_true (by omega), decide_eq_true (by omega), if_pos rfl, if_pos rfl]
  | succ n ih =>
    intro x h d1 d2 d3 d4 d5 hx hp hV
    have h1 : zsf m p x 132 = N := by unfold zsf; rw [if_neg (by omega), hN]
    have hV2 := zMV_up hV (104 + x) (zsf m p x (104 + x + 1))
    rw [zsf_step m hp] at hV2
    obtain ⟨h', e1, e2, e3⟩ := ih (x + 1) _ d1 d2 d3 d4 d5 (by omega) (by omega) hV2
    refine ⟨h', ?_, e2, zk7_tr (zk7_up (zk7_rf h) _ _) e3⟩
    rw [zb_22_135, zS_ib _ (by omega), zS_cl (by omega), hV.1 132 (by omega), h1, zS_cge (by omega) (by omega), decide_eq_true (by omega), decide_eq_false (by omega), if_pos rfl, if_neg (by decide), zS_add, zS_add, zS_ib _ (by omega), decide_eq_true (by omega), if_pos rfl, zS_ib _ (by omega), decide_eq_true (by omega), if_pos rfl, zS_cl (by omega), zS_cl (by omega), hV.1 _ (by omega), zS_add]
    exact e1
theorem zm_lays2 {h : zHp} {m : Nat → Nat} {hs : List (Nat → Nat)} {sn : Option (Nat → Nat)} {tx : List Nat} (hV : zMV h m hs sn tx) {a b p : Nat} (ha : a < 8) (hb : b < 8) (hp : p < znb m) (hn : znb m ≤ 28) (hc : zod m p = zcd a b) (hB : ∀ j, j < znb m → zod m j < 100) : ∀ (n k : Nat) (d3 d4 d6 : Option zV), k + n = p → (∀ j, k ≤ j → j < p → zod m j ≠ zcd a b) → ∃ h', zr_22 95 [some (.inr 76), some (.inl (nI a)), some (.inl (nI b)), d3, d4, some (.inl (nI k)), d6] [] h = some (none, h') ∧ zMV h' (zers m p) hs sn tx ∧ zk7 h h' := by
  have hcd : zcd a b < 100 := by rw [← hc]; exact hB p hp
  intro n
  induction n with
  | zero =>
    intro k d3 d4 d6 hk hj
    have hk : k = p := by omega
    subst hk
    have hV2 : zMV (zup h 77 132 (nI (znb m - 1))) (zsf (zu m 132 (znb m - 1)) k k) hs sn tx := by
      rw [zsf_0]
      exact zMV_up hV 132 (znb m - 1)
    obtain ⟨h', e1, e2, e3⟩ := zm_lays3 (m := zu m 132 (znb m - 1)) (N := znb m - 1) (zu_same _ _ _) (by omega) (znb m - 1 - k) k _ (some (.inl (nI a))) (some (.inl (nI b))) d3 d4 (some (.inl (nI k))) (by omega) (by omega) hV2
    refine ⟨h', ?_, e2, zk7_tr (zk7_up (zk7_rf h) _ _) e3⟩
    have e4 : h 77 (nI 132).toNatClampNeg = nI (znb m) := by rw [zS_cl (by omega), hV.1 132 (by omega)]; rfl
    have e5 : h 77 (nI (104 + k)).toNatClampNeg = nI (zod m k) := by rw [zS_cl (by omega), hV.1 (104 + k) (by omega)]; rfl
    rw [zb_22_95, zS_add, zS_ib _ (by omega), decide_eq_true (by omega), if_pos rfl, zm_code h ha hb, e5]
    simp only [Option.bind_some, zpush]
    rw [zb_22_110, zS_ceq (by omega) (by omega), decide_eq_true hc, if_pos rfl, zS_ib _ (by omega), decide_eq_true (by omega), if_pos rfl, if_pos rfl, e4, zS_sub (by omega), zS_cl (by omega)]
    exact e1
  | succ n ih =>
    intro k d3 d4 d6 hk hj
    obtain ⟨h', e1, e2, e3⟩ := ih (k + 1) d3 d4 d6 (by omega) (fun j h1 h2 => hj j (by omega) h2)
    refine ⟨h', ?_, e2, e3⟩
    have e5 : h 77 (nI (104 + k)).toNatClampNeg = nI (zod m k) := by rw [zS_cl (by omega), hV.1 (104 + k) (by omega)]; rfl
    have := hB k (by omega)
    rw [zb_22_95, zS_add, zS_ib _ (by omega), decide_eq_true (by omega), if_pos rfl, zm_code h ha hb, e5]
    simp only [Option.bind_some, zpush]
    rw [zb_22_110, zS_ceq (by omega) (by omega), decide_eq_false (hj k (Nat.le_refl _) (by omega)), if_neg (by decide), zS_add]
    exact e1
theorem zm_laysK {h : zHp} {m : Nat → Nat} {hs : List (Nat → Nat)} {sn : Option (Nat → Nat)} {tx : List Nat} (hV : zMV h m hs sn tx) (hI : zI m) {a b len : Nat} (ha : a < 8) (hb : b < 8) (hab : a ≠ b) (hl : len ≤ 99) : ∃ h', zM_22 [.inr 76, .inl (nI a), .inl (nI b), .inl (nI len)] h = some (none, h') ∧ zMV h' (zly m a b len) hs sn tx ∧ zk7 h h' := by
  obtain ⟨⟨b1, b2, b3, b4, b5⟩, i1, i2, i3, i4, i5, i6, hO⟩ := id hI
  have hl99 := b4 a b ha hb
  have hV2 : zMV (zup (zup h 77 (40 + 8 * a + b) (nI len)) 77 (40 + 8 * b + a) (nI len)) (zm1 m a b len) hs sn tx := zMV_up (zMV_up hV _ len) _ len
  have hlo2 : zk7 h (zup (zup h 77 (40 + 8 * a + b) (nI len)) 77 (40 + 8 * b + a) (nI len)) := zk7_up (zk7_up (zk7_rf h) _ _) _ _
  have hnb : znb (zm1 m a b len) = znb m := zm1_un ha hb (by omega)
  have hod : ∀ k, zod (zm1 m a b len) k = zod m k := fun k => zm1_un ha hb (by omega)
  rw [ze_22, zm_len hV.1 ha hb]
  simp only [Option.bind_some, zpush]
  rw [zb_22_6, zS_mul, zS_mul, zS_add, zS_add, zS_add, zS_add, zS_ib _ (by omega), zS_ib _ (by omega), decide_eq_true (by omega), decide_eq_true (by omega), if_pos rfl, if_pos rfl, zS_cl (by omega), zS_cl (by omega), zS_cne (by omega) (by omega), zS_cle (by omega) (by omega), zS_cle (by omega) (by omega), zS_cne (by omega) (by omega)]
  generalize hh2 : zup (zup h 77 (40 + 8 * a + b) (nI len)) 77 (40 + 8 * b + a) (nI len) = h2 at hV2 hlo2 ⊢
  by_cases h1 : zln m a b = 0
  · rw [decide_eq_true h1, if_neg (by decide)]
    by_cases h3 : len = 0
    · rw [decide_eq_true (show len ≤ 0 by omega), if_pos rfl, decide_eq_true (show zln m a b ≤ 0 by omega), if_pos rfl]
      refine ⟨_, rfl, ?_, hlo2⟩
      unfold zly
      rw [if_pos h1, if_pos h3]
      exact hV2
    · have h28 := zroom28 hO i3 ha hb hab h1
      have e4 : h2 77 (nI 132).toNatClampNeg = nI (znb m) := by rw [zS_cl (by omega), hV2.1 132 (by omega)]; exact congrArg nI hnb
      rw [decide_eq_false (show ¬ len ≤ 0 by omega), if_neg (by decide), zS_ib _ (by omega), decide_eq_true (by omega), if_pos rfl, zm_code h2 ha hb, e4, zS_add]
      simp only [Option.bind_some, zpush]
      rw [zb_22_67, zS_ib _ (by omega), decide_eq_true (by omega), if_pos rfl, zS_ib _ (by omega), decide_eq_true (by omega), if_pos rfl, if_pos rfl, zS_cl (by omega), zS_cl (by omega)]
      have e5 : (zup h2 77 (104 + znb m) (nI (zcd a b))) 77 132 = nI (znb m) := by
        rw [zS_zup_nk _ _ (by omega)]
        rw [zS_cl (by omega)] at e4
        exact e4
      rw [e5, zS_add]
      refine ⟨_, rfl, ?_, zk7_up (zk7_up hlo2 _ _) _ _⟩
      unfold zly
      rw [if_pos h1, if_neg h3]
      exact zMV_up (zMV_up hV2 _ _) _ _
  · rw [decide_eq_false h1, if_pos (by decide), decide_eq_false (show ¬ zln m a b ≤ 0 by omega), if_neg (by decide)]
    by_cases h3 : len = 0
    · obtain ⟨lo0, hi0, c1, c2, c3, c4⟩ := zcd_lh ha hb hab
      obtain ⟨o1, o2, o3⟩ := id hO
      have hpos : 0 < zln m lo0 hi0 := by
        rcases c4 with ⟨rfl, rfl⟩ | ⟨rfl, rfl⟩
        · omega
        · rw [i3 _ _ (by omega) (by omega)]; omega
      obtain ⟨p, hp1, hp2⟩ := o3 lo0 hi0 c1 c2 hpos
      have hne : ∀ j, j < p → zod m j ≠ zcd a b := fun j hj he => by
        have := o2 j p (by omega) hp1 (by rw [he, hp2, c3])
        omega
      have hp3 : zfind m (zcd a b) 0 28 = p := zfind_eq (by rw [hp2, c3]) 28 0 (by omega) (by omega) (fun j _ hj => hne j hj)
      obtain ⟨h', e1, e2, e3⟩ := zm_lays2 hV2 (a := a) (b := b) (p := p) ha hb (by omega) (by omega) (by rw [hod, hp2, c3]) (fun j hj => by
        rw [hod]
        obtain ⟨lo, hi, p1, p2, p3, p4⟩ := o1 j (by omega)
        omega) p 0 (some (.inl (nI len))) (some (.inl (nI (zln m a b)))) none (by omega) (fun j _ hj => by rw [hod]; exact hne j hj)
      rw [decide_eq_true h3, if_neg (by decide)]
      refine ⟨h', e1, ?_, zk7_tr hlo2 e3⟩
      unfold zly
      rw [if_neg h1, if_pos h3, hp3]
      exact e2
    · rw [decide_eq_false h3, if_pos (by decide)]
      refine ⟨_, rfl, ?_, hlo2⟩
      unfold zly
      rw [if_neg h1, if_neg h3]
      exact hV2
theorem zm_lays {h : zHp} {m : Nat → Nat} {hs : List (Nat → Nat)} {sn : Option (Nat → Nat)} {tx : List Nat} (hV : zMV h m hs sn tx) (hI : zI m) {a b len : Nat} (ha : a < 8) (hb : b < 8) (hab : a ≠ b) (hl : len ≤ 99) : ∃ h', zM_22 [.inr 76, .inl (nI a), .inl (nI b), .inl (nI len)] h = some (none, h') ∧ zMV h' (zly m a b len) hs sn tx ∧ zlo h h' := by
  obtain ⟨h', p1, p2, p3⟩ := zm_laysK hV hI ha hb hab hl
  exact ⟨h', p1, p2, fun b hb j => p3 b j (by omega)⟩
