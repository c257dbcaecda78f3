/-! fewestColours of the class. -/
theorem zn_kop {X : Nat} : ∀ (n k : Nat) (g : zHp), k + n = 8 → ∃ g', zr_164 2 [some (.inr 62), some (.inl (nI X)), some (.inl (nI k))] [] g = some (none, g') ∧ (∀ j, k ≤ j → j < 8 → g' 72 j = zand (g 72 j) (nI X)) ∧ ∀ b j, ¬ (b = 72 ∧ k ≤ j) → g' b j = g b j := by
  intro n
  induction n with
  | zero =>
    intro k g hk
    refine ⟨g, ?_, fun j a b => by omega, fun _ _ _ => rfl⟩
    rw [zb_164_2, zS_cge (by omega) (by omega), decide_eq_true (by omega), if_pos rfl]
  | succ n ih =>
    intro k g hk
    obtain ⟨g', r1, r2, r3⟩ := ih (k + 1) (zup g 72 k (zand (g 72 k) (nI X))) (by omega)
    refine ⟨g', ?_, fun j a b => ?_, fun b j hb => ?_⟩
    · rw [zb_164_2, zS_cge (by omega) (by omega), decide_eq_false (by omega), if_neg (by decide), zS_ib _ (by omega), decide_eq_true (show k < 8 by omega), if_pos rfl, if_pos rfl, zS_cl (by omega), zS_add]
      exact r1
    · by_cases hj : j = k
      · subst hj
        rw [r3 _ _ (by omega), zS_zup_same]
      · rw [r2 j (by omega) b, zS_zup_nk _ _ hj]
    · rw [r3 b j (by omega)]
      unfold zup
      rw [if_neg (by omega)]
def zcanX (m : Nat → Nat) (X : Nat) : Bool := zne (zgs m (fun c => zopn m c &&& X) (znbs m) 8 0 zp0)
theorem zcanX_iff {m : Nat → Nat} (hI : zI m) {X : Nat} : zcanX m X = true ↔ ∃ q, q ∈ zEs m ∧ ∀ c, c < 8 → zt m c = true → X.testBit (q c) = true := by
  unfold zcanX
  rw [zne_iff]
  constructor
  · rintro ⟨q, hq⟩
    obtain ⟨a, b⟩ := (zres (R := fun _ => X) (fun c hc ht => zopn_lt hI.1 hc) q).mp hq
    exact ⟨q, by rw [← zgs_b hI]; exact a, b⟩
  · rintro ⟨q, hq, hv⟩
    rw [← zgs_b hI] at hq
    exact ⟨q, (zres (R := fun _ => X) (fun c hc ht => zopn_lt hI.1 hc) q).mpr ⟨hq, hv⟩⟩
def zfwl (m : Nat → Nat) : Nat → Nat → Nat → Nat
  | _, 0, F => F
  | x, n + 1, F => zfwl m (x + 1) n (if (decide (zbits x < F) && zcanX m x) = true then zbits x else F)
theorem zfwl_ok {m : Nat → Nat} : ∀ (n x F : Nat), zfwl m x n F ≤ F ∧ (zfwl m x n F = F ∨ ∃ y, zcanX m y = true ∧ zfwl m x n F = zbits y) ∧ ∀ y, x ≤ y → y < x + n → zcanX m y = true → zfwl m x n F ≤ zbits y := by
  intro n
  induction n with
  | zero =>
    intro x F
    exact ⟨Nat.le_refl _, Or.inl rfl, fun y a b => by omega⟩
  | succ n ih =>
    intro x F
    have e : zfwl m x (n + 1) F = zfwl m (x + 1) n (if (decide (zbits x < F) && zcanX m x) = true then zbits x else F) := rfl
    rw [e]
    by_cases hc : (decide (zbits x < F) && zcanX m x) = true
    · rw [if_pos hc]
      rw [Bool.and_eq_true, decide_eq_true_iff] at hc
      obtain ⟨a, b, d⟩ := ih (x + 1) (zbits x)
      refine ⟨by omega, Or.inr ?_, fun y y1 y2 y3 => ?_⟩
      · rcases b with b | b
        · exact ⟨x, hc.2, b⟩
        · exact b
      · by_cases hy : y = x
        · rw [hy]; exact a
        · exact d y (by omega) (by omega) y3
    · rw [if_neg hc]
      obtain ⟨a, b, d⟩ := ih (x + 1) F
      refine ⟨a, b, fun y y1 y2 y3 => ?_⟩
      by_cases hy : y = x
      · subst hy
        rw [y3, Bool.and_true, decide_eq_true_iff] at hc
        omega
      · exact d y (by omega) (by omega) y3
theorem zfw_ok1 {m : Nat → Nat} {x : Nat} : ∀ (L : List (Nat → Nat)) (b : Nat), L.foldl (zfwst m) (some b) = some x → (x = b ∨ ∃ q, q ∈ L ∧ x = zbits (zpcs m q)) ∧ x ≤ b ∧ ∀ q, q ∈ L → x ≤ zbits (zpcs m q) := by
  intro L
  induction L with
  | nil =>
    intro b h
    have h := Option.some.inj h
    subst h
    exact ⟨Or.inl rfl, Nat.le_refl _, fun q hq => by cases hq⟩
  | cons p L ih =>
    intro b h
    have h : L.foldl (zfwst m) (if zbits (zpcs m p) < b then some (zbits (zpcs m p)) else some b) = some x := h
    by_cases hb : zbits (zpcs m p) < b
    · rw [if_pos hb] at h
      obtain ⟨a1, a2, a3⟩ := ih _ h
      refine ⟨Or.inr ?_, by omega, fun q hq => ?_⟩
      · rcases a1 with a1 | ⟨q, hq, a1⟩
        · exact ⟨p, List.mem_cons_self, a1⟩
        · exact ⟨q, List.mem_cons_of_mem _ hq, a1⟩
      · rcases List.mem_cons.mp hq with rfl | hq
        · exact a2
        · exact a3 q hq
    · rw [if_neg hb] at h
      obtain ⟨a1, a2, a3⟩ := ih _ h
      refine ⟨?_, a2, fun q hq => ?_⟩
      · rcases a1 with a1 | ⟨q, hq, a1⟩
        · exact Or.inl a1
        · exact Or.inr ⟨q, List.mem_cons_of_mem _ hq, a1⟩
      · rcases List.mem_cons.mp hq with rfl | hq
        · omega
        · exact a3 q hq
theorem zfw_ok {m : Nat → Nat} {x : Nat} {L : List (Nat → Nat)} (h : zfw m L = some x) : (∃ q, q ∈ L ∧ x = zbits (zpcs m q)) ∧ ∀ q, q ∈ L → x ≤ zbits (zpcs m q) := by
  cases L with
  | nil => cases h
  | cons p L =>
    have h : L.foldl (zfwst m) (some (zbits (zpcs m p))) = some x := h
    obtain ⟨a1, a2, a3⟩ := zfw_ok1 L _ h
    refine ⟨?_, fun q hq => ?_⟩
    · rcases a1 with a1 | ⟨q, hq, a1⟩
      · exact ⟨p, List.mem_cons_self, a1⟩
      · exact ⟨q, List.mem_cons_of_mem _ hq, a1⟩
    · rcases List.mem_cons.mp hq with rfl | hq
      · exact a2
      · exact a3 q hq
theorem zpk_bit {m p : Nat → Nat} {v : Nat} : ∀ (n c : Nat), (zpk m p c n).testBit v = true ↔ ∃ d, c ≤ d ∧ d < c + n ∧ zt m d = true ∧ p d = v := by
  intro n
  induction n with
  | zero =>
    intro c
    constructor
    · intro h
      simp [zpk] at h
    · rintro ⟨d, a, b, _⟩
      omega
  | succ n ih =>
    intro c
    show ((if zt m c = true then 2 ^ p c else 0) ||| zpk m p (c + 1) n).testBit v = true ↔ _
    rw [Nat.testBit_or, Bool.or_eq_true, ih]
    constructor
    · rintro (h | ⟨d, a, b, e⟩)
      · split at h
        · rename_i ht
          rw [Nat.testBit_two_pow] at h
          exact ⟨c, by omega, by omega, ht, of_decide_eq_true h⟩
        · simp at h
      · exact ⟨d, by omega, by omega, e⟩
    · rintro ⟨d, a, b, e1, e2⟩
      by_cases hd : d = c
      · subst hd
        left
        rw [if_pos e1, Nat.testBit_two_pow]
        exact decide_eq_true e2
      · exact Or.inr ⟨d, by omega, by omega, e1, e2⟩
theorem zfwl_fw {m : Nat → Nat} (hI : zI m) : (if zfwl m 0 16 5 ≤ 4 then nI (zfwl m 0 16 5) else -4) = zqFew m := by
  have he := zB_ev hI.1
  have h4 : ∀ q, q ∈ zEs m → ∀ c, c < zev8 m → q c < 4 := fun q hq => by
    have := zsol_lt (m := m) (e1 := -5) (e2 := -5) (zev8 m) 0 (fun _ => 0) q hq (fun c hc => by omega)
    rw [Nat.zero_add] at this
    exact this
  obtain ⟨a1, a2, a3⟩ := zfwl_ok (m := m) 16 0 5
  generalize zfwl m 0 16 5 = Z at a1 a2 a3 ⊢
  unfold zqFew
  have hcan : ∀ y, zcanX m y = true → ∃ q, q ∈ zEs m ∧ zbits (zpcs m q) ≤ zbits y := fun y hy => by
    obtain ⟨q, hq, hv⟩ := (zcanX_iff hI).mp hy
    refine ⟨q, hq, zbits_mono (fun i hi => ?_) 8 0⟩
    obtain ⟨d, d1, d2, d3, d4⟩ := (zpk_bit _ _).mp hi
    rw [← d4]
    exact hv d (by omega) d3
  cases hf : zfw m (zEs m) with
  | none =>
    have hl : (zEs m).length = 0 := by
      apply Classical.byContradiction
      intro hn
      obtain ⟨x, hx⟩ := zfw_ne (m := m) hn
      rw [hf] at hx
      cases hx
    have : Z = 5 := by
      rcases a2 with a2 | ⟨y, hy, _⟩
      · exact a2
      · obtain ⟨q, hq, _⟩ := hcan y hy
        have := List.length_pos_of_mem hq
        omega
    rw [if_neg (by omega)]
  | some x =>
    obtain ⟨⟨q, hq, hx⟩, hall⟩ := zfw_ok hf
    have hlt : zpcs m q < 16 := zpk_lt (h4 q hq) (zev8 m) 0 (by omega)
    have hcq : zcanX m (zpcs m q) = true := (zcanX_iff hI).mpr ⟨q, hq, fun c hc ht => (zpk_bit _ _).mpr ⟨c, by omega, by have := zt_lt ht; omega, ht, rfl⟩⟩
    have h1 := a3 _ (by omega) (by omega) hcq
    have hb4 : zbits (zpcs m q) ≤ 4 := by
      rw [zbits_4 _ hlt]
      have : ∀ b : Bool, b.toNat ≤ 1 := fun b => by cases b <;> decide
      have := this ((zpcs m q).testBit 0)
      have := ‹∀ b : Bool, b.toNat ≤ 1› ((zpcs m q).testBit 1)
      have := ‹∀ b : Bool, b.toNat ≤ 1› ((zpcs m q).testBit 2)
      have := ‹∀ b : Bool, b.toNat ≤ 1› ((zpcs m q).testBit 3)
      omega
    have h2 : x ≤ Z := by
      rcases a2 with a2 | ⟨y, hy, hz⟩
      · omega
      · obtain ⟨q2, hq2, hle⟩ := hcan y hy
        have := hall q2 hq2
        omega
    rw [if_pos (by omega), show Z = x by omega]
theorem zn_few1 {m : Nat → Nat} {hs : List (Nat → Nat)} {sn : Option (Nat → Nat)} {tx : List Nat} (hI : zI m) : ∀ (n x F : Nat) (d3 : Option zV) (h : zHp), x + n = 16 → F ≤ 8 → zCV h m hs sn tx → ∃ h', zr_165 4 [some (.inr 0), some (.inl (nI F)), some (.inl (nI x)), d3] [] h = some (some (if zfwl m x n F ≤ 4 then nI (zfwl m x n F) else -4), h') ∧ zCV h' m hs sn tx ∧ zhi h h' := by
  intro n
  induction n with
  | zero =>
    intro x F d3 h hx hF hV
    refine ⟨h, ?_, hV, zhi_rf _⟩
    rw [zb_165_4, zS_cgt (by omega) (by omega), decide_eq_true (by omega), if_pos rfl, zS_cle (by omega) (by omega)]
    show _ = some (some (if F ≤ 4 then nI F else -4), h)
    by_cases h4 : F ≤ 4
    · rw [decide_eq_true h4, if_pos rfl, if_pos h4]
    · rw [decide_eq_false h4, if_neg (by decide), if_neg h4]
  | succ n ih =>
    intro x F d3 h hx hF hV
    have hb := zbits_le x
    have es : zfwl m x (n + 1) F = zfwl m (x + 1) n (if (decide (zbits x < F) && zcanX m x) = true then zbits x else F) := rfl
    rw [es, zb_165_4, zS_cgt (by omega) (by omega), decide_eq_false (by omega), if_neg (by decide), zn_bits h (by omega)]
    simp only [Option.bind_some, zpush]
    rw [zb_165_14, zS_cge (by omega) (by omega), zS_add]
    by_cases h1 : F ≤ zbits x
    · rw [decide_eq_true h1, if_pos rfl, decide_eq_false (show ¬ zbits x < F by omega), Bool.false_and, if_neg (show ¬ (false = true) by decide)]
      exact ih (x + 1) F _ h (by omega) hF hV
    · obtain ⟨g, r1, r2, r3, r4, r5⟩ := zn_prp hV.1 hI
      obtain ⟨g1, k1, k2, k3⟩ := zn_kop (X := x) 8 0 g (by omega)
      have hR : zRP g1 m (fun d => zopn m d &&& x) (znbs m) := by
        refine ⟨zSr_fr r2 (fun b j _ _ => k3 b j (by omega)), fun d hd htd => ?_, fun d hd _ => by rw [k3 _ _ (by omega)]; exact r4 d hd⟩
        rw [k2 d (by omega) hd, r3 d hd htd, zS_and]
      obtain ⟨g', s1, s2⟩ := zn_can8 hI.1 (zNC_r (fun _ => x) (zNC_b hI)) hR
      have hlow : ∀ b j, b < 62 ∨ 76 ≤ b → g' b j = h b j := fun b j hb => by rw [s2 b j (by omega), k3 b j (by omega), r5 b j (by omega)]
      have hV' : zCV g' m hs sn tx := zCV_se hV (fun b j hb => hlow b j (by omega))
      rw [decide_eq_false h1, if_neg (by decide), r1]
      simp only [Option.bind_some, zpush]
      rw [zb_165_31, ze_164, k1]
      simp only [Option.bind_some, zpush]
      rw [zb_165_39, s1]
      simp only [Option.bind_some, zpush]
      rw [zb_165_46, zS_b0, zS_add, decide_eq_true (show zbits x < F by omega), Bool.true_and]
      have ef : zne (zgs m (fun d => zopn m d &&& x) (znbs m) 8 0 zp0) = zcanX m x := rfl
      rw [ef]
      cases hq : zcanX m x with
      | false =>
        obtain ⟨h', t1, t2, t3⟩ := ih (x + 1) F (some (.inl (nI (zbits x)))) g' (by omega) hF hV'
        rw [if_pos (by decide), if_neg (show ¬ (false = true) by decide)]
        exact ⟨h', t1, t2, zhi_tr (fun b hb j => hlow b j (by omega)) t3⟩
      | true =>
        obtain ⟨h', t1, t2, t3⟩ := ih (x + 1) (zbits x) (some (.inl (nI (zbits x)))) g' (by omega) (by omega) hV'
        rw [if_neg (by decide), if_pos rfl]
        exact ⟨h', t1, t2, zhi_tr (fun b hb j => hlow b j (by omega)) t3⟩
theorem zn_few {h : zHp} {m : Nat → Nat} {hs : List (Nat → Nat)} {sn : Option (Nat → Nat)} {tx : List Nat} (hV : zCV h m hs sn tx) (hI : zI m) : zCAns (zM_165 [.inr 0]) (zqFew m, none) h m hs sn tx := by
  obtain ⟨h', r1, r2, r3⟩ := zn_few1 hI 16 0 5 none h (by omega) (by omega) hV
  rw [zfwl_fw hI] at r1
  exact ⟨h', (ze_165 h).trans r1, r2, r3⟩
