/-! countAll, canPaint of the class: their levels. (Printed by gen98m.py) -/
theorem zqc_142 {m op nb : Nat → Nat} (hB : zB m) (hN : zNC m op nb) (ih : zLC m op nb 0 zM_141) : zLC m op nb (0 + 1) zM_142 := by
  intro i p h hik hR hT
  have hi : i < 8 := by omega
  have ex : zth m (nI i) = zt m i := zth_nI (by omega)
  rw [ze_142, zS_clt (show i < 2147483648 by omega) (by omega), decide_eq_true hi, if_pos rfl, zn_there3 hR.1 hB, ex]
  simp only [Option.bind_some, zpush]
  rw [zb_142_16, zS_b0n]
  cases ht : zt m i with
  | false =>
    obtain ⟨h', r1, r2⟩ := ih (i + 1) (zu p i 0) h (by omega) hR (zTr_n hN hi hT ht 0)
    rw [zgs_s, ht, if_neg (by decide), if_neg (by decide), zS_add, r1]
    simp only [Option.bind_some, zpush]
    rw [zb_142_26]
    exact ⟨h', rfl, zK4_up r2⟩
  | true =>
    have hX := zcof_lt hN hi ht p
    rw [if_pos rfl, zn_cof hR hN hi ht (fun o ho hbit => hT o ho i (by omega) hi ht hbit)]
    simp only [Option.bind_some, zpush]
    rw [zb_142_32, zn_bnd hR hN hi ht]
    simp only [Option.bind_some, zpush]
    rw [zb_142_38, zS_b0n]
    by_cases hu : nb i >>> i = 0
    · obtain ⟨h', r1, r2⟩ := ih (i + 1) (zu p i 0) h (by omega) hR (zTr_u hN hi hT hu 0)
      rw [decide_eq_true hu, if_neg (by decide), zn_bits h (by omega), zgs_free hN (by omega) ht hu p]
      simp only [Option.bind_some, zpush]
      rw [zb_142_45, zS_add, r1]
      simp only [Option.bind_some, zpush]
      rw [zb_142_52, zS_mul]
      exact ⟨h', rfl, zK4_up r2⟩
    · rw [decide_eq_false hu, if_pos (by decide), zgs_s, ht, if_pos rfl]
      have loop : ∀ (n v acc : Nat) (g : zHp), v + n = 4 → zRP g m op nb → zTr g m nb i p → ∃ g', zr_142 59 [some (.inr 62), some (.inl (nI i)), some (.inl (nI (zcof m op nb i p))), some (.inl (nI acc)), some (.inl (nI v))] [] g = some (some (nI (acc + (zsv (fun v => if (zcof m op nb i p).testBit v = true then zgs m op nb 0 (i + 1) (zu p i v) else []) v n).length)), g') ∧ zK4 i g g' := by
        intro n
        induction n with
        | zero =>
          intro v acc g hv hR hT
          refine ⟨g, ?_, zK4_rf _ _⟩
          rw [zb_142_59, zS_cge (by omega) (by omega), decide_eq_true (by omega), if_pos rfl]
          rfl
        | succ n ih2 =>
          intro v acc g hv hR hT
          have hv4 : v < 4 := by omega
          have ezs : zsv (fun v => if (zcof m op nb i p).testBit v = true then zgs m op nb 0 (i + 1) (zu p i v) else []) v (n + 1) = (if (zcof m op nb i p).testBit v = true then zgs m op nb 0 (i + 1) (zu p i v) else []) ++ zsv (fun v => if (zcof m op nb i p).testBit v = true then zgs m op nb 0 (i + 1) (zu p i v) else []) (v + 1) n := rfl
          rw [ezs, List.length_append, zb_142_59, zS_cge (by omega) (by omega), decide_eq_false (by omega), if_neg (by decide), zn_has g (by omega) (by omega)]
          simp only [Option.bind_some, zpush]
          rw [zb_142_71, zS_b0, zS_add, zS_add]
          cases hbit : (zcof m op nb i p).testBit v with
          | false =>
            rw [if_pos (by decide), if_neg (by decide), List.length_nil, Nat.zero_add]
            exact ih2 (v + 1) acc g (by omega) hR hT
          | true =>
            obtain ⟨h1, r1, r2⟩ := ih (i + 1) (zu p i v) (zup g 74 i (nI v)) (by omega) (zRP_74 hR _) (zTr_s hT hv4)
            have K1 : zK4 i g h1 := zK4_74 r2
            obtain ⟨g', s1, s2⟩ := ih2 (v + 1) (acc + (zgs m op nb 0 (i + 1) (zu p i v)).length) h1 (by omega) (zRP_k4 hR K1) (zTr_k4 hT K1)
            rw [if_neg (by decide), if_pos rfl, zS_ib _ (by omega), decide_eq_true hi, if_pos rfl, zS_cl (by omega), r1]
            simp only [Option.bind_some, zpush]
            rw [zb_142_90, zS_add, zS_add, ← Nat.add_assoc]
            exact ⟨g', s1, zK4_tr K1 s2⟩
      obtain ⟨g', s1, s2⟩ := loop 4 0 0 h (by omega) hR hT
      rw [Nat.zero_add] at s1
      exact ⟨g', s1, s2⟩
theorem zqn_154 {m op nb : Nat → Nat} (hB : zB m) (hN : zNC m op nb) (ih : zLN m op nb 0 zM_153) : zLN m op nb (0 + 1) zM_154 := by
  intro i p h hik hR hT
  have hi : i < 8 := by omega
  have ex : zth m (nI i) = zt m i := zth_nI (by omega)
  rw [ze_154, zS_clt (show i < 2147483648 by omega) (by omega), decide_eq_true hi, if_pos rfl, zn_there3 hR.1 hB, ex]
  simp only [Option.bind_some, zpush]
  rw [zb_154_16, zS_b0n]
  cases ht : zt m i with
  | false =>
    obtain ⟨h', r1, r2⟩ := ih (i + 1) (zu p i 0) h (by omega) hR (zTr_n hN hi hT ht 0)
    rw [zgs_s, ht, if_neg (by decide), if_neg (by decide), zS_add, r1]
    simp only [Option.bind_some, zpush]
    rw [zb_154_26, zS_bo, if_pos rfl]
    exact ⟨h', rfl, zK4_up r2⟩
  | true =>
    have hX := zcof_lt hN hi ht p
    rw [if_pos rfl, zn_cof hR hN hi ht (fun o ho hbit => hT o ho i (by omega) hi ht hbit)]
    simp only [Option.bind_some, zpush]
    rw [zb_154_32, zn_bnd hR hN hi ht]
    simp only [Option.bind_some, zpush]
    rw [zb_154_38, zS_b0n, zS_bo0]
    by_cases hu : nb i >>> i = 0
    · rw [decide_eq_true hu, if_neg (by decide), zS_ceq (by omega) (by omega)]
      have el := zgs_free hN (by omega) ht hu p
      by_cases hX0 : zcof m op nb i p = 0
      · have : zne (zgs m op nb (0 + 1) i p) = false := by
          unfold zne
          rw [el, (zbits_0 (show zcof m op nb i p < 256 by omega)).mpr hX0, Nat.zero_mul]
          rfl
        rw [decide_eq_true hX0, if_pos rfl, if_pos rfl, this]
        exact ⟨h, rfl, zK4_rf _ _⟩
      · have hb0 : zbits (zcof m op nb i p) ≠ 0 := fun e => hX0 ((zbits_0 (show zcof m op nb i p < 256 by omega)).mp e)
        have : zne (zgs m op nb (0 + 1) i p) = zne (zgs m op nb 0 (i + 1) (zu p i 0)) := by
          unfold zne
          rw [el, Bool.eq_iff_iff, decide_eq_true_iff, decide_eq_true_iff]
          constructor
          · intro a
            rcases Nat.eq_zero_or_pos (zgs m op nb 0 (i + 1) (zu p i 0)).length with e | e
            · rw [e, Nat.mul_zero] at a
              omega
            · exact e
          · intro a
            exact Nat.mul_pos (by omega) a
        obtain ⟨h', r1, r2⟩ := ih (i + 1) (zu p i 0) h (by omega) hR (zTr_u hN hi hT hu 0)
        rw [decide_eq_false hX0, if_neg (by decide), zS_add, r1, this]
        simp only [Option.bind_some, zpush]
        rw [zb_154_52, zS_b0, zS_bo0, zS_bo1]
        refine ⟨h', ?_, zK4_up r2⟩
        cases zne (zgs m op nb 0 (i + 1) (zu p i 0)) <;> rfl
    · rw [decide_eq_false hu, if_pos (by decide), zgs_s, ht, if_pos rfl]
      have loop : ∀ (n v : Nat) (g : zHp), v + n = 4 → zRP g m op nb → zTr g m nb i p → ∃ g', zr_154 63 [some (.inr 62), some (.inl (nI i)), some (.inl (nI (zcof m op nb i p))), some (.inl (nI v))] [] g = some (some (nI (zne (zsv (fun v => if (zcof m op nb i p).testBit v = true then zgs m op nb 0 (i + 1) (zu p i v) else []) v n)).toNat), g') ∧ zK4 i g g' := by
        intro n
        induction n with
        | zero =>
          intro v g hv hR hT
          refine ⟨g, ?_, zK4_rf _ _⟩
          rw [zb_154_63, zS_cge (by omega) (by omega), decide_eq_true (by omega), if_pos rfl, zS_bo0, if_pos rfl]
          rfl
        | succ n ih2 =>
          intro v g hv hR hT
          have hv4 : v < 4 := by omega
          have ezs : zsv (fun v => if (zcof m op nb i p).testBit v = true then zgs m op nb 0 (i + 1) (zu p i v) else []) v (n + 1) = (if (zcof m op nb i p).testBit v = true then zgs m op nb 0 (i + 1) (zu p i v) else []) ++ zsv (fun v => if (zcof m op nb i p).testBit v = true then zgs m op nb 0 (i + 1) (zu p i v) else []) (v + 1) n := rfl
          rw [ezs, zne_app, zb_154_63, zS_cge (by omega) (by omega), decide_eq_false (by omega), if_neg (by decide), zn_has g (by omega) (by omega)]
          simp only [Option.bind_some, zpush]
          rw [zb_154_73, zS_b0, zS_add, zS_add]
          cases hbit : (zcof m op nb i p).testBit v with
          | false =>
            rw [if_pos (by decide), if_neg (by decide)]
            exact ih2 (v + 1) g (by omega) hR hT
          | true =>
            obtain ⟨h1, r1, r2⟩ := ih (i + 1) (zu p i v) (zup g 74 i (nI v)) (by omega) (zRP_74 hR _) (zTr_s hT hv4)
            have K1 : zK4 i g h1 := zK4_74 r2
            obtain ⟨g', s1, s2⟩ := ih2 (v + 1) h1 (by omega) (zRP_k4 hR K1) (zTr_k4 hT K1)
            rw [if_neg (by decide), if_pos rfl, zS_ib _ (by omega), decide_eq_true hi, if_pos rfl, zS_cl (by omega), r1]
            simp only [Option.bind_some, zpush]
            rw [zb_154_90, zS_b0, zS_add, zS_bo1]
            cases hne : zne (zgs m op nb 0 (i + 1) (zu p i v)) with
            | true =>
              rw [if_neg (by decide), if_pos rfl]
              exact ⟨h1, rfl, K1⟩
            | false =>
              rw [if_pos (by decide)]
              exact ⟨g', s1, zK4_tr K1 s2⟩
      exact loop 4 0 h (by omega) hR hT
theorem zqc_143 {m op nb : Nat → Nat} (hB : zB m) (hN : zNC m op nb) (ih : zLC m op nb 1 zM_142) : zLC m op nb (1 + 1) zM_143 := by
  intro i p h hik hR hT
  have hi : i < 8 := by omega
  have ex : zth m (nI i) = zt m i := zth_nI (by omega)
  rw [ze_143, zS_clt (show i < 2147483648 by omega) (by omega), decide_eq_true hi, if_pos rfl, zn_there3 hR.1 hB, ex]
  simp only [Option.bind_some, zpush]
  rw [zb_143_16, zS_b0n]
  cases ht : zt m i with
  | false =>
    obtain ⟨h', r1, r2⟩ := ih (i + 1) (zu p i 0) h (by omega) hR (zTr_n hN hi hT ht 0)
    rw [zgs_s, ht, if_neg (by decide), if_neg (by decide), zS_add, r1]
    simp only [Option.bind_some, zpush]
    rw [zb_143_26]
    exact ⟨h', rfl, zK4_up r2⟩
  | true =>
    have hX := zcof_lt hN hi ht p
    rw [if_pos rfl, zn_cof hR hN hi ht (fun o ho hbit => hT o ho i (by omega) hi ht hbit)]
    simp only [Option.bind_some, zpush]
    rw [zb_143_32, zn_bnd hR hN hi ht]
    simp only [Option.bind_some, zpush]
    rw [zb_143_38, zS_b0n]
    by_cases hu : nb i >>> i = 0
    · obtain ⟨h', r1, r2⟩ := ih (i + 1) (zu p i 0) h (by omega) hR (zTr_u hN hi hT hu 0)
      rw [decide_eq_true hu, if_neg (by decide), zn_bits h (by omega), zgs_free hN (by omega) ht hu p]
      simp only [Option.bind_some, zpush]
      rw [zb_143_45, zS_add, r1]
      simp only [Option.bind_some, zpush]
      rw [zb_143_52, zS_mul]
      exact ⟨h', rfl, zK4_up r2⟩
    · rw [decide_eq_false hu, if_pos (by decide), zgs_s, ht, if_pos rfl]
      have loop : ∀ (n v acc : Nat) (g : zHp), v + n = 4 → zRP g m op nb → zTr g m nb i p → ∃ g', zr_143 59 [some (.inr 62), some (.inl (nI i)), some (.inl (nI (zcof m op nb i p))), some (.inl (nI acc)), some (.inl (nI v))] [] g = some (some (nI (acc + (zsv (fun v => if (zcof m op nb i p).testBit v = true then zgs m op nb 1 (i + 1) (zu p i v) else []) v n).length)), g') ∧ zK4 i g g' := by
        intro n
        induction n with
        | zero =>
          intro v acc g hv hR hT
          refine ⟨g, ?_, zK4_rf _ _⟩
          rw [zb_143_59, zS_cge (by omega) (by omega), decide_eq_true (by omega), if_pos rfl]
          rfl
        | succ n ih2 =>
          intro v acc g hv hR hT
          have hv4 : v < 4 := by omega
          have ezs : zsv (fun v => if (zcof m op nb i p).testBit v = true then zgs m op nb 1 (i + 1) (zu p i v) else []) v (n + 1) = (if (zcof m op nb i p).testBit v = true then zgs m op nb 1 (i + 1) (zu p i v) else []) ++ zsv (fun v => if (zcof m op nb i p).testBit v = true then zgs m op nb 1 (i + 1) (zu p i v) else []) (v + 1) n := rfl
          rw [ezs, List.length_append, zb_143_59, zS_cge (by omega) (by omega), decide_eq_false (by omega), if_neg (by decide), zn_has g (by omega) (by omega)]
          simp only [Option.bind_some, zpush]
          rw [zb_143_71, zS_b0, zS_add, zS_add]
          cases hbit : (zcof m op nb i p).testBit v with
          | false =>
            rw [if_pos (by decide), if_neg (by decide), List.length_nil, Nat.zero_add]
            exact ih2 (v + 1) acc g (by omega) hR hT
          | true =>
            obtain ⟨h1, r1, r2⟩ := ih (i + 1) (zu p i v) (zup g 74 i (nI v)) (by omega) (zRP_74 hR _) (zTr_s hT hv4)
            have K1 : zK4 i g h1 := zK4_74 r2
            obtain ⟨g', s1, s2⟩ := ih2 (v + 1) (acc + (zgs m op nb 1 (i + 1) (zu p i v)).length) h1 (by omega) (zRP_k4 hR K1) (zTr_k4 hT K1)
            rw [if_neg (by decide), if_pos rfl, zS_ib _ (by omega), decide_eq_true hi, if_pos rfl, zS_cl (by omega), r1]
            simp only [Option.bind_some, zpush]
            rw [zb_143_90, zS_add, zS_add, ← Nat.add_assoc]
            exact ⟨g', s1, zK4_tr K1 s2⟩
      obtain ⟨g', s1, s2⟩ := loop 4 0 0 h (by omega) hR hT
      rw [Nat.zero_add] at s1
      exact ⟨g', s1, s2⟩
theorem zqn_155 {m op nb : Nat → Nat} (hB : zB m) (hN : zNC m op nb) (ih : zLN m op nb 1 zM_154) : zLN m op nb (1 + 1) zM_155 := by
  intro i p h hik hR hT
  have hi : i < 8 := by omega
  have ex : zth m (nI i) = zt m i := zth_nI (by omega)
  rw [ze_155, zS_clt (show i < 2147483648 by omega) (by omega), decide_eq_true hi, if_pos rfl, zn_there3 hR.1 hB, ex]
  simp only [Option.bind_some, zpush]
  rw [zb_155_16, zS_b0n]
  cases ht : zt m i with
  | false =>
    obtain ⟨h', r1, r2⟩ := ih (i + 1) (zu p i 0) h (by omega) hR (zTr_n hN hi hT ht 0)
    rw [zgs_s, ht, if_neg (by decide), if_neg (by decide), zS_add, r1]
    simp only [Option.bind_some, zpush]
    rw [zb_155_26, zS_bo, if_pos rfl]
    exact ⟨h', rfl, zK4_up r2⟩
  | true =>
    have hX := zcof_lt hN hi ht p
    rw [if_pos rfl, zn_cof hR hN hi ht (fun o ho hbit => hT o ho i (by omega) hi ht hbit)]
    simp only [Option.bind_some, zpush]
    rw [zb_155_32, zn_bnd hR hN hi ht]
    simp only [Option.bind_some, zpush]
    rw [zb_155_38, zS_b0n, zS_bo0]
    by_cases hu : nb i >>> i = 0
    · rw [decide_eq_true hu, if_neg (by decide), zS_ceq (by omega) (by omega)]
      have el := zgs_free hN (by omega) ht hu p
      by_cases hX0 : zcof m op nb i p = 0
      · have : zne (zgs m op nb (1 + 1) i p) = false := by
          unfold zne
          rw [el, (zbits_0 (show zcof m op nb i p < 256 by omega)).mpr hX0, Nat.zero_mul]
          rfl
        rw [decide_eq_true hX0, if_pos rfl, if_pos rfl, this]
        exact ⟨h, rfl, zK4_rf _ _⟩
      · have hb0 : zbits (zcof m op nb i p) ≠ 0 := fun e => hX0 ((zbits_0 (show zcof m op nb i p < 256 by omega)).mp e)
        have : zne (zgs m op nb (1 + 1) i p) = zne (zgs m op nb 1 (i + 1) (zu p i 0)) := by
          unfold zne
          rw [el, Bool.eq_iff_iff, decide_eq_true_iff, decide_eq_true_iff]
          constructor
          · intro a
            rcases Nat.eq_zero_or_pos (zgs m op nb 1 (i + 1) (zu p i 0)).length with e | e
            · rw [e, Nat.mul_zero] at a
              omega
            · exact e
          · intro a
            exact Nat.mul_pos (by omega) a
        obtain ⟨h', r1, r2⟩ := ih (i + 1) (zu p i 0) h (by omega) hR (zTr_u hN hi hT hu 0)
        rw [decide_eq_false hX0, if_neg (by decide), zS_add, r1, this]
        simp only [Option.bind_some, zpush]
        rw [zb_155_52, zS_b0, zS_bo0, zS_bo1]
        refine ⟨h', ?_, zK4_up r2⟩
        cases zne (zgs m op nb 1 (i + 1) (zu p i 0)) <;> rfl
    · rw [decide_eq_false hu, if_pos (by decide), zgs_s, ht, if_pos rfl]
      have loop : ∀ (n v : Nat) (g : zHp), v + n = 4 → zRP g m op nb → zTr g m nb i p → ∃ g', zr_155 63 [some (.inr 62), some (.inl (nI i)), some (.inl (nI (zcof m op nb i p))), some (.inl (nI v))] [] g = some (some (nI (zne (zsv (fun v => if (zcof m op nb i p).testBit v = true then zgs m op nb 1 (i + 1) (zu p i v) else []) v n)).toNat), g') ∧ zK4 i g g' := by
        intro n
        induction n with
        | zero =>
          intro v g hv hR hT
          refine ⟨g, ?_, zK4_rf _ _⟩
          rw [zb_155_63, zS_cge (by omega) (by omega), decide_eq_true (by omega), if_pos rfl, zS_bo0, if_pos rfl]
          rfl
        | succ n ih2 =>
          intro v g hv hR hT
          have hv4 : v < 4 := by omega
          have ezs : zsv (fun v => if (zcof m op nb i p).testBit v = true then zgs m op nb 1 (i + 1) (zu p i v) else []) v (n + 1) = (if (zcof m op nb i p).testBit v = true then zgs m op nb 1 (i + 1) (zu p i v) else []) ++ zsv (fun v => if (zcof m op nb i p).testBit v = true then zgs m op nb 1 (i + 1) (zu p i v) else []) (v + 1) n := rfl
          rw [ezs, zne_app, zb_155_63, zS_cge (by omega) (by omega), decide_eq_false (by omega), if_neg (by decide), zn_has g (by omega) (by omega)]
          simp only [Option.bind_some, zpush]
          rw [zb_155_73, zS_b0, zS_add, zS_add]
          cases hbit : (zcof m op nb i p).testBit v with
          | false =>
            rw [if_pos (by decide), if_neg (by decide)]
            exact ih2 (v + 1) g (by omega) hR hT
          | true =>
            obtain ⟨h1, r1, r2⟩ := ih (i + 1) (zu p i v) (zup g 74 i (nI v)) (by omega) (zRP_74 hR _) (zTr_s hT hv4)
            have K1 : zK4 i g h1 := zK4_74 r2
            obtain ⟨g', s1, s2⟩ := ih2 (v + 1) h1 (by omega) (zRP_k4 hR K1) (zTr_k4 hT K1)
            rw [if_neg (by decide), if_pos rfl, zS_ib _ (by omega), decide_eq_true hi, if_pos rfl, zS_cl (by omega), r1]
            simp only [Option.bind_some, zpush]
            rw [zb_155_90, zS_b0, zS_add, zS_bo1]
            cases hne : zne (zgs m op nb 1 (i + 1) (zu p i v)) with
            | true =>
              rw [if_neg (by decide), if_pos rfl]
              exact ⟨h1, rfl, K1⟩
            | false =>
              rw [if_pos (by decide)]
              exact ⟨g', s1, zK4_tr K1 s2⟩
      exact loop 4 0 h (by omega) hR hT
theorem zqc_144 {m op nb : Nat → Nat} (hB : zB m) (hN : zNC m op nb) (ih : zLC m op nb 2 zM_143) : zLC m op nb (2 + 1) zM_144 := by
  intro i p h hik hR hT
  have hi : i < 8 := by omega
  have ex : zth m (nI i) = zt m i := zth_nI (by omega)
  rw [ze_144, zS_clt (show i < 2147483648 by omega) (by omega), decide_eq_true hi, if_pos rfl, zn_there3 hR.1 hB, ex]
  simp only [Option.bind_some, zpush]
  rw [zb_144_16, zS_b0n]
  cases ht : zt m i with
  | false =>
    obtain ⟨h', r1, r2⟩ := ih (i + 1) (zu p i 0) h (by omega) hR (zTr_n hN hi hT ht 0)
    rw [zgs_s, ht, if_neg (by decide), if_neg (by decide), zS_add, r1]
    simp only [Option.bind_some, zpush]
    rw [zb_144_26]
    exact ⟨h', rfl, zK4_up r2⟩
  | true =>
    have hX := zcof_lt hN hi ht p
    rw [if_pos rfl, zn_cof hR hN hi ht (fun o ho hbit => hT o ho i (by omega) hi ht hbit)]
    simp only [Option.bind_some, zpush]
    rw [zb_144_32, zn_bnd hR hN hi ht]
    simp only [Option.bind_some, zpush]
    rw [zb_144_38, zS_b0n]
    by_cases hu : nb i >>> i = 0
    · obtain ⟨h', r1, r2⟩ := ih (i + 1) (zu p i 0) h (by omega) hR (zTr_u hN hi hT hu 0)
      rw [decide_eq_true hu, if_neg (by decide), zn_bits h (by omega), zgs_free hN (by omega) ht hu p]
      simp only [Option.bind_some, zpush]
      rw [zb_144_45, zS_add, r1]
      simp only [Option.bind_some, zpush]
      rw [zb_144_52, zS_mul]
      exact ⟨h', rfl, zK4_up r2⟩
    · rw [decide_eq_false hu, if_pos (by decide), zgs_s, ht, if_pos rfl]
      have loop : ∀ (n v acc : Nat) (g : zHp), v + n = 4 → zRP g m op nb → zTr g m nb i p → ∃ g', zr_144 59 [some (.inr 62), some (.inl (nI i)), some (.inl (nI (zcof m op nb i p))), some (.inl (nI acc)), some (.inl (nI v))] [] g = some (some (nI (acc + (zsv (fun v => if (zcof m op nb i p).testBit v = true then zgs m op nb 2 (i + 1) (zu p i v) else []) v n).length)), g') ∧ zK4 i g g' := by
        intro n
        induction n with
        | zero =>
          intro v acc g hv hR hT
          refine ⟨g, ?_, zK4_rf _ _⟩
          rw [zb_144_59, zS_cge (by omega) (by omega), decide_eq_true (by omega), if_pos rfl]
          rfl
        | succ n ih2 =>
          intro v acc g hv hR hT
          have hv4 : v < 4 := by omega
          have ezs : zsv (fun v => if (zcof m op nb i p).testBit v = true then zgs m op nb 2 (i + 1) (zu p i v) else []) v (n + 1) = (if (zcof m op nb i p).testBit v = true then zgs m op nb 2 (i + 1) (zu p i v) else []) ++ zsv (fun v => if (zcof m op nb i p).testBit v = true then zgs m op nb 2 (i + 1) (zu p i v) else []) (v + 1) n := rfl
          rw [ezs, List.length_append, zb_144_59, zS_cge (by omega) (by omega), decide_eq_false (by omega), if_neg (by decide), zn_has g (by omega) (by omega)]
          simp only [Option.bind_some, zpush]
          rw [zb_144_71, zS_b0, zS_add, zS_add]
          cases hbit : (zcof m op nb i p).testBit v with
          | false =>
            rw [if_pos (by decide), if_neg (by decide), List.length_nil, Nat.zero_add]
            exact ih2 (v + 1) acc g (by omega) hR hT
          | true =>
            obtain ⟨h1, r1, r2⟩ := ih (i + 1) (zu p i v) (zup g 74 i (nI v)) (by omega) (zRP_74 hR _) (zTr_s hT hv4)
            have K1 : zK4 i g h1 := zK4_74 r2
            obtain ⟨g', s1, s2⟩ := ih2 (v + 1) (acc + (zgs m op nb 2 (i + 1) (zu p i v)).length) h1 (by omega) (zRP_k4 hR K1) (zTr_k4 hT K1)
            rw [if_neg (by decide), if_pos rfl, zS_ib _ (by omega), decide_eq_true hi, if_pos rfl, zS_cl (by omega), r1]
            simp only [Option.bind_some, zpush]
            rw [zb_144_90, zS_add, zS_add, ← Nat.add_assoc]
            exact ⟨g', s1, zK4_tr K1 s2⟩
      obtain ⟨g', s1, s2⟩ := loop 4 0 0 h (by omega) hR hT
      rw [Nat.zero_add] at s1
      exact ⟨g', s1, s2⟩
theorem zqn_156 {m op nb : Nat → Nat} (hB : zB m) (hN : zNC m op nb) (ih : zLN m op nb 2 zM_155) : zLN m op nb (2 + 1) zM_156 := by
  intro i p h hik hR hT
  have hi : i < 8 := by omega
  have ex : zth m (nI i) = zt m i := zth_nI (by omega)
  rw [ze_156, zS_clt (show i < 2147483648 by omega) (by omega), decide_eq_true hi, if_pos rfl, zn_there3 hR.1 hB, ex]
  simp only [Option.bind_some, zpush]
  rw [zb_156_16, zS_b0n]
  cases ht : zt m i with
  | false =>
    obtain ⟨h', r1, r2⟩ := ih (i + 1) (zu p i 0) h (by omega) hR (zTr_n hN hi hT ht 0)
    rw [zgs_s, ht, if_neg (by decide), if_neg (by decide), zS_add, r1]
    simp only [Option.bind_some, zpush]
    rw [zb_156_26, zS_bo, if_pos rfl]
    exact ⟨h', rfl, zK4_up r2⟩
  | true =>
    have hX := zcof_lt hN hi ht p
    rw [if_pos rfl, zn_cof hR hN hi ht (fun o ho hbit => hT o ho i (by omega) hi ht hbit)]
    simp only [Option.bind_some, zpush]
    rw [zb_156_32, zn_bnd hR hN hi ht]
    simp only [Option.bind_some, zpush]
    rw [zb_156_38, zS_b0n, zS_bo0]
    by_cases hu : nb i >>> i = 0
    · rw [decide_eq_true hu, if_neg (by decide), zS_ceq (by omega) (by omega)]
      have el := zgs_free hN (by omega) ht hu p
      by_cases hX0 : zcof m op nb i p = 0
      · have : zne (zgs m op nb (2 + 1) i p) = false := by
          unfold zne
          rw [el, (zbits_0 (show zcof m op nb i p < 256 by omega)).mpr hX0, Nat.zero_mul]
          rfl
        rw [decide_eq_true hX0, if_pos rfl, if_pos rfl, this]
        exact ⟨h, rfl, zK4_rf _ _⟩
      · have hb0 : zbits (zcof m op nb i p) ≠ 0 := fun e => hX0 ((zbits_0 (show zcof m op nb i p < 256 by omega)).mp e)
        have : zne (zgs m op nb (2 + 1) i p) = zne (zgs m op nb 2 (i + 1) (zu p i 0)) := by
          unfold zne
          rw [el, Bool.eq_iff_iff, decide_eq_true_iff, decide_eq_true_iff]
          constructor
          · intro a
            rcases Nat.eq_zero_or_pos (zgs m op nb 2 (i + 1) (zu p i 0)).length with e | e
            · rw [e, Nat.mul_zero] at a
              omega
            · exact e
          · intro a
            exact Nat.mul_pos (by omega) a
        obtain ⟨h', r1, r2⟩ := ih (i + 1) (zu p i 0) h (by omega) hR (zTr_u hN hi hT hu 0)
        rw [decide_eq_false hX0, if_neg (by decide), zS_add, r1, this]
        simp only [Option.bind_some, zpush]
        rw [zb_156_52, zS_b0, zS_bo0, zS_bo1]
        refine ⟨h', ?_, zK4_up r2⟩
        cases zne (zgs m op nb 2 (i + 1) (zu p i 0)) <;> rfl
    · rw [decide_eq_false hu, if_pos (by decide), zgs_s, ht, if_pos rfl]
      have loop : ∀ (n v : Nat) (g : zHp), v + n = 4 → zRP g m op nb → zTr g m nb i p → ∃ g', zr_156 63 [some (.inr 62), some (.inl (nI i)), some (.inl (nI (zcof m op nb i p))), some (.inl (nI v))] [] g = some (some (nI (zne (zsv (fun v => if (zcof m op nb i p).testBit v = true then zgs m op nb 2 (i + 1) (zu p i v) else []) v n)).toNat), g') ∧ zK4 i g g' := by
        intro n
        induction n with
        | zero =>
          intro v g hv hR hT
          refine ⟨g, ?_, zK4_rf _ _⟩
          rw [zb_156_63, zS_cge (by omega) (by omega), decide_eq_true (by omega), if_pos rfl, zS_bo0, if_pos rfl]
          rfl
        | succ n ih2 =>
          intro v g hv hR hT
          have hv4 : v < 4 := by omega
          have ezs : zsv (fun v => if (zcof m op nb i p).testBit v = true then zgs m op nb 2 (i + 1) (zu p i v) else []) v (n + 1) = (if (zcof m op nb i p).testBit v = true then zgs m op nb 2 (i + 1) (zu p i v) else []) ++ zsv (fun v => if (zcof m op nb i p).testBit v = true then zgs m op nb 2 (i + 1) (zu p i v) else []) (v + 1) n := rfl
          rw [ezs, zne_app, zb_156_63, zS_cge (by omega) (by omega), decide_eq_false (by omega), if_neg (by decide), zn_has g (by omega) (by omega)]
          simp only [Option.bind_some, zpush]
          rw [zb_156_73, zS_b0, zS_add, zS_add]
          cases hbit : (zcof m op nb i p).testBit v with
          | false =>
            rw [if_pos (by decide), if_neg (by decide)]
            exact ih2 (v + 1) g (by omega) hR hT
          | true =>
            obtain ⟨h1, r1, r2⟩ := ih (i + 1) (zu p i v) (zup g 74 i (nI v)) (by omega) (zRP_74 hR _) (zTr_s hT hv4)
            have K1 : zK4 i g h1 := zK4_74 r2
            obtain ⟨g', s1, s2⟩ := ih2 (v + 1) h1 (by omega) (zRP_k4 hR K1) (zTr_k4 hT K1)
            rw [if_neg (by decide), if_pos rfl, zS_ib _ (by omega), decide_eq_true hi, if_pos rfl, zS_cl (by omega), r1]
            simp only [Option.bind_some, zpush]
            rw [zb_156_90, zS_b0, zS_add, zS_bo1]
            cases hne : zne (zgs m op nb 2 (i + 1) (zu p i v)) with
            | true =>
              rw [if_neg (by decide), if_pos rfl]
              exact ⟨h1, rfl, K1⟩
            | false =>
              rw [if_pos (by decide)]
              exact ⟨g', s1, zK4_tr K1 s2⟩
      exact loop 4 0 h (by omega) hR hT
theorem zqc_145 {m op nb : Nat → Nat} (hB : zB m) (hN : zNC m op nb) (ih : zLC m op nb 3 zM_144) : zLC m op nb (3 + 1) zM_145 := by
  intro i p h hik hR hT
  have hi : i < 8 := by omega
  have ex : zth m (nI i) = zt m i := zth_nI (by omega)
  rw [ze_145, zS_clt (show i < 2147483648 by omega) (by omega), decide_eq_true hi, if_pos rfl, zn_there3 hR.1 hB, ex]
  simp only [Option.bind_some, zpush]
  rw [zb_145_16, zS_b0n]
  cases ht : zt m i with
  | false =>
    obtain ⟨h', r1, r2⟩ := ih (i + 1) (zu p i 0) h (by omega) hR (zTr_n hN hi hT ht 0)
    rw [zgs_s, ht, if_neg (by decide), if_neg (by decide), zS_add, r1]
    simp only [Option.bind_some, zpush]
    rw [zb_145_26]
    exact ⟨h', rfl, zK4_up r2⟩
  | true =>
    have hX := zcof_lt hN hi ht p
    rw [if_pos rfl, zn_cof hR hN hi ht (fun o ho hbit => hT o ho i (by omega) hi ht hbit)]
    simp only [Option.bind_some, zpush]
    rw [zb_145_32, zn_bnd hR hN hi ht]
    simp only [Option.bind_some, zpush]
    rw [zb_145_38, zS_b0n]
    by_cases hu : nb i >>> i = 0
    · obtain ⟨h', r1, r2⟩ := ih (i + 1) (zu p i 0) h (by omega) hR (zTr_u hN hi hT hu 0)
      rw [decide_eq_true hu, if_neg (by decide), zn_bits h (by omega), zgs_free hN (by omega) ht hu p]
      simp only [Option.bind_some, zpush]
      rw [zb_145_45, zS_add, r1]
      simp only [Option.bind_some, zpush]
      rw [zb_145_52, zS_mul]
      exact ⟨h', rfl, zK4_up r2⟩
    · rw [decide_eq_false hu, if_pos (by decide), zgs_s, ht, if_pos rfl]
      have loop : ∀ (n v acc : Nat) (g : zHp), v + n = 4 → zRP g m op nb → zTr g m nb i p → ∃ g', zr_145 59 [some (.inr 62), some (.inl (nI i)), some (.inl (nI (zcof m op nb i p))), some (.inl (nI acc)), some (.inl (nI v))] [] g = some (some (nI (acc + (zsv (fun v => if (zcof m op nb i p).testBit v = true then zgs m op nb 3 (i + 1) (zu p i v) else []) v n).length)), g') ∧ zK4 i g g' := by
        intro n
        induction n with
        | zero =>
          intro v acc g hv hR hT
          refine ⟨g, ?_, zK4_rf _ _⟩
          rw [zb_145_59, zS_cge (by omega) (by omega), decide_eq_true (by omega), if_pos rfl]
          rfl
        | succ n ih2 =>
          intro v acc g hv hR hT
          have hv4 : v < 4 := by omega
          have ezs : zsv (fun v => if (zcof m op nb i p).testBit v = true then zgs m op nb 3 (i + 1) (zu p i v) else []) v (n + 1) = (if (zcof m op nb i p).testBit v = true then zgs m op nb 3 (i + 1) (zu p i v) else []) ++ zsv (fun v => if (zcof m op nb i p).testBit v = true then zgs m op nb 3 (i + 1) (zu p i v) else []) (v + 1) n := rfl
          rw [ezs, List.length_append, zb_145_59, zS_cge (by omega) (by omega), decide_eq_false (by omega), if_neg (by decide), zn_has g (by omega) (by omega)]
          simp only [Option.bind_some, zpush]
          rw [zb_145_71, zS_b0, zS_add, zS_add]
          cases hbit : (zcof m op nb i p).testBit v with
          | false =>
            rw [if_pos (by decide), if_neg (by decide), List.length_nil, Nat.zero_add]
            exact ih2 (v + 1) acc g (by omega) hR hT
          | true =>
            obtain ⟨h1, r1, r2⟩ := ih (i + 1) (zu p i v) (zup g 74 i (nI v)) (by omega) (zRP_74 hR _) (zTr_s hT hv4)
            have K1 : zK4 i g h1 := zK4_74 r2
            obtain ⟨g', s1, s2⟩ := ih2 (v + 1) (acc + (zgs m op nb 3 (i + 1) (zu p i v)).length) h1 (by omega) (zRP_k4 hR K1) (zTr_k4 hT K1)
            rw [if_neg (by decide), if_pos rfl, zS_ib _ (by omega), decide_eq_true hi, if_pos rfl, zS_cl (by omega), r1]
            simp only [Option.bind_some, zpush]
            rw [zb_145_90, zS_add, zS_add, ← Nat.add_assoc]
            exact ⟨g', s1, zK4_tr K1 s2⟩
      obtain ⟨g', s1, s2⟩ := loop 4 0 0 h (by omega) hR hT
      rw [Nat.zero_add] at s1
      exact ⟨g', s1, s2⟩
theorem zqn_157 {m op nb : Nat → Nat} (hB : zB m) (hN : zNC m op nb) (ih : zLN m op nb 3 zM_156) : zLN m op nb (3 + 1) zM_157 := by
  intro i p h hik hR hT
  have hi : i < 8 := by omega
  have ex : zth m (nI i) = zt m i := zth_nI (by omega)
  rw [ze_157, zS_clt (show i < 2147483648 by omega) (by omega), decide_eq_true hi, if_pos rfl, zn_there3 hR.1 hB, ex]
  simp only [Option.bind_some, zpush]
  rw [zb_157_16, zS_b0n]
  cases ht : zt m i with
  | false =>
    obtain ⟨h', r1, r2⟩ := ih (i + 1) (zu p i 0) h (by omega) hR (zTr_n hN hi hT ht 0)
    rw [zgs_s, ht, if_neg (by decide), if_neg (by decide), zS_add, r1]
    simp only [Option.bind_some, zpush]
    rw [zb_157_26, zS_bo, if_pos rfl]
    exact ⟨h', rfl, zK4_up r2⟩
  | true =>
    have hX := zcof_lt hN hi ht p
    rw [if_pos rfl, zn_cof hR hN hi ht (fun o ho hbit => hT o ho i (by omega) hi ht hbit)]
    simp only [Option.bind_some, zpush]
    rw [zb_157_32, zn_bnd hR hN hi ht]
    simp only [Option.bind_some, zpush]
    rw [zb_157_38, zS_b0n, zS_bo0]
    by_cases hu : nb i >>> i = 0
    · rw [decide_eq_true hu, if_neg (by decide), zS_ceq (by omega) (by omega)]
      have el := zgs_free hN (by omega) ht hu p
      by_cases hX0 : zcof m op nb i p = 0
      · have : zne (zgs m op nb (3 + 1) i p) = false := by
          unfold zne
          rw [el, (zbits_0 (show zcof m op nb i p < 256 by omega)).mpr hX0, Nat.zero_mul]
          rfl
        rw [decide_eq_true hX0, if_pos rfl, if_pos rfl, this]
        exact ⟨h, rfl, zK4_rf _ _⟩
      · have hb0 : zbits (zcof m op nb i p) ≠ 0 := fun e => hX0 ((zbits_0 (show zcof m op nb i p < 256 by omega)).mp e)
        have : zne (zgs m op nb (3 + 1) i p) = zne (zgs m op nb 3 (i + 1) (zu p i 0)) := by
          unfold zne
          rw [el, Bool.eq_iff_iff, decide_eq_true_iff, decide_eq_true_iff]
          constructor
          · intro a
            rcases Nat.eq_zero_or_pos (zgs m op nb 3 (i + 1) (zu p i 0)).length with e | e
            · rw [e, Nat.mul_zero] at a
              omega
            · exact e
          · intro a
            exact Nat.mul_pos (by omega) a
        obtain ⟨h', r1, r2⟩ := ih (i + 1) (zu p i 0) h (by omega) hR (zTr_u hN hi hT hu 0)
        rw [decide_eq_false hX0, if_neg (by decide), zS_add, r1, this]
        simp only [Option.bind_some, zpush]
        rw [zb_157_52, zS_b0, zS_bo0, zS_bo1]
        refine ⟨h', ?_, zK4_up r2⟩
        cases zne (zgs m op nb 3 (i + 1) (zu p i 0)) <;> rfl
    · rw [decide_eq_false hu, if_pos (by decide), zgs_s, ht, if_pos rfl]
      have loop : ∀ (n v : Nat) (g : zHp), v + n = 4 → zRP g m op nb → zTr g m nb i p → ∃ g', zr_157 63 [some (.inr 62), some (.inl (nI i)), some (.inl (nI (zcof m op nb i p))), some (.inl (nI v))] [] g = some (some (nI (zne (zsv (fun v => if (zcof m op nb i p).testBit v = true then zgs m op nb 3 (i + 1) (zu p i v) else []) v n)).toNat), g') ∧ zK4 i g g' := by
        intro n
        induction n with
        | zero =>
          intro v g hv hR hT
          refine ⟨g, ?_, zK4_rf _ _⟩
          rw [zb_157_63, zS_cge (by omega) (by omega), decide_eq_true (by omega), if_pos rfl, zS_bo0, if_pos rfl]
          rfl
        | succ n ih2 =>
          intro v g hv hR hT
          have hv4 : v < 4 := by omega
          have ezs : zsv (fun v => if (zcof m op nb i p).testBit v = true then zgs m op nb 3 (i + 1) (zu p i v) else []) v (n + 1) = (if (zcof m op nb i p).testBit v = true then zgs m op nb 3 (i + 1) (zu p i v) else []) ++ zsv (fun v => if (zcof m op nb i p).testBit v = true then zgs m op nb 3 (i + 1) (zu p i v) else []) (v + 1) n := rfl
          rw [ezs, zne_app, zb_157_63, zS_cge (by omega) (by omega), decide_eq_false (by omega), if_neg (by decide), zn_has g (by omega) (by omega)]
          simp only [Option.bind_some, zpush]
          rw [zb_157_73, zS_b0, zS_add, zS_add]
          cases hbit : (zcof m op nb i p).testBit v with
          | false =>
            rw [if_pos (by decide), if_neg (by decide)]
            exact ih2 (v + 1) g (by omega) hR hT
          | true =>
            obtain ⟨h1, r1, r2⟩ := ih (i + 1) (zu p i v) (zup g 74 i (nI v)) (by omega) (zRP_74 hR _) (zTr_s hT hv4)
            have K1 : zK4 i g h1 := zK4_74 r2
            obtain ⟨g', s1, s2⟩ := ih2 (v + 1) h1 (by omega) (zRP_k4 hR K1) (zTr_k4 hT K1)
            rw [if_neg (by decide), if_pos rfl, zS_ib _ (by omega), decide_eq_true hi, if_pos rfl, zS_cl (by omega), r1]
            simp only [Option.bind_some, zpush]
            rw [zb_157_90, zS_b0, zS_add, zS_bo1]
            cases hne : zne (zgs m op nb 3 (i + 1) (zu p i v)) with
            | true =>
              rw [if_neg (by decide), if_pos rfl]
              exact ⟨h1, rfl, K1⟩
            | false =>
              rw [if_pos (by decide)]
              exact ⟨g', s1, zK4_tr K1 s2⟩
      exact loop 4 0 h (by omega) hR hT
theorem zqc_146 {m op nb : Nat → Nat} (hB : zB m) (hN : zNC m op nb) (ih : zLC m op nb 4 zM_145) : zLC m op nb (4 + 1) zM_146 := by
  intro i p h hik hR hT
  have hi : i < 8 := by omega
  have ex : zth m (nI i) = zt m i := zth_nI (by omega)
  rw [ze_146, zS_clt (show i < 2147483648 by omega) (by omega), decide_eq_true hi, if_pos rfl, zn_there3 hR.1 hB, ex]
  simp only [Option.bind_some, zpush]
  rw [zb_146_16, zS_b0n]
  cases ht : zt m i with
  | false =>
    obtain ⟨h', r1, r2⟩ := ih (i + 1) (zu p i 0) h (by omega) hR (zTr_n hN hi hT ht 0)
    rw [zgs_s, ht, if_neg (by decide), if_neg (by decide), zS_add, r1]
    simp only [Option.bind_some, zpush]
    rw [zb_146_26]
    exact ⟨h', rfl, zK4_up r2⟩
  | true =>
    have hX := zcof_lt hN hi ht p
    rw [if_pos rfl, zn_cof hR hN hi ht (fun o ho hbit => hT o ho i (by omega) hi ht hbit)]
    simp only [Option.bind_some, zpush]
    rw [zb_146_32, zn_bnd hR hN hi ht]
    simp only [Option.bind_some, zpush]
    rw [zb_146_38, zS_b0n]
    by_cases hu : nb i >>> i = 0
    · obtain ⟨h', r1, r2⟩ := ih (i + 1) (zu p i 0) h (by omega) hR (zTr_u hN hi hT hu 0)
      rw [decide_eq_true hu, if_neg (by decide), zn_bits h (by omega), zgs_free hN (by omega) ht hu p]
      simp only [Option.bind_some, zpush]
      rw [zb_146_45, zS_add, r1]
      simp only [Option.bind_some, zpush]
      rw [zb_146_52, zS_mul]
      exact ⟨h', rfl, zK4_up r2⟩
    · rw [decide_eq_false hu, if_pos (by decide), zgs_s, ht, if_pos rfl]
      have loop : ∀ (n v acc : Nat) (g : zHp), v + n = 4 → zRP g m op nb → zTr g m nb i p → ∃ g', zr_146 59 [some (.inr 62), some (.inl (nI i)), some (.inl (nI (zcof m op nb i p))), some (.inl (nI acc)), some (.inl (nI v))] [] g = some (some (nI (acc + (zsv (fun v => if (zcof m op nb i p).testBit v = true then zgs m op nb 4 (i + 1) (zu p i v) else []) v n).length)), g') ∧ zK4 i g g' := by
        intro n
        induction n with
        | zero =>
          intro v acc g hv hR hT
          refine ⟨g, ?_, zK4_rf _ _⟩
          rw [zb_146_59, zS_cge (by omega) (by omega), decide_eq_true (by omega), if_pos rfl]
          rfl
        | succ n ih2 =>
          intro v acc g hv hR hT
          have hv4 : v < 4 := by omega
          have ezs : zsv (fun v => if (zcof m op nb i p).testBit v = true then zgs m op nb 4 (i + 1) (zu p i v) else []) v (n + 1) = (if (zcof m op nb i p).testBit v = true then zgs m op nb 4 (i + 1) (zu p i v) else []) ++ zsv (fun v => if (zcof m op nb i p).testBit v = true then zgs m op nb 4 (i + 1) (zu p i v) else []) (v + 1) n := rfl
          rw [ezs, List.length_append, zb_146_59, zS_cge (by omega) (by omega), decide_eq_false (by omega), if_neg (by decide), zn_has g (by omega) (by omega)]
          simp only [Option.bind_some, zpush]
          rw [zb_146_71, zS_b0, zS_add, zS_add]
          cases hbit : (zcof m op nb i p).testBit v with
          | false =>
            rw [if_pos (by decide), if_neg (by decide), List.length_nil, Nat.zero_add]
            exact ih2 (v + 1) acc g (by omega) hR hT
          | true =>
            obtain ⟨h1, r1, r2⟩ := ih (i + 1) (zu p i v) (zup g 74 i (nI v)) (by omega) (zRP_74 hR _) (zTr_s hT hv4)
            have K1 : zK4 i g h1 := zK4_74 r2
            obtain ⟨g', s1, s2⟩ := ih2 (v + 1) (acc + (zgs m op nb 4 (i + 1) (zu p i v)).length) h1 (by omega) (zRP_k4 hR K1) (zTr_k4 hT K1)
            rw [if_neg (by decide), if_pos rfl, zS_ib _ (by omega), decide_eq_true hi, if_pos rfl, zS_cl (by omega), r1]
            simp only [Option.bind_some, zpush]
            rw [zb_146_90, zS_add, zS_add, ← Nat.add_assoc]
            exact ⟨g', s1, zK4_tr K1 s2⟩
      obtain ⟨g', s1, s2⟩ := loop 4 0 0 h (by omega) hR hT
      rw [Nat.zero_add] at s1
      exact ⟨g', s1, s2⟩
theorem zqn_158 {m op nb : Nat → Nat} (hB : zB m) (hN : zNC m op nb) (ih : zLN m op nb 4 zM_157) : zLN m op nb (4 + 1) zM_158 := by
  intro i p h hik hR hT
  have hi : i < 8 := by omega
  have ex : zth m (nI i) = zt m i := zth_nI (by omega)
  rw [ze_158, zS_clt (show i < 2147483648 by omega) (by omega), decide_eq_true hi, if_pos rfl, zn_there3 hR.1 hB, ex]
  simp only [Option.bind_some, zpush]
  rw [zb_158_16, zS_b0n]
  cases ht : zt m i with
  | false =>
    obtain ⟨h', r1, r2⟩ := ih (i + 1) (zu p i 0) h (by omega) hR (zTr_n hN hi hT ht 0)
    rw [zgs_s, ht, if_neg (by decide), if_neg (by decide), zS_add, r1]
    simp only [Option.bind_some, zpush]
    rw [zb_158_26, zS_bo, if_pos rfl]
    exact ⟨h', rfl, zK4_up r2⟩
  | true =>
    have hX := zcof_lt hN hi ht p
    rw [if_pos rfl, zn_cof hR hN hi ht (fun o ho hbit => hT o ho i (by omega) hi ht hbit)]
    simp only [Option.bind_some, zpush]
    rw [zb_158_32, zn_bnd hR hN hi ht]
    simp only [Option.bind_some, zpush]
    rw [zb_158_38, zS_b0n, zS_bo0]
    by_cases hu : nb i >>> i = 0
    · rw [decide_eq_true hu, if_neg (by decide), zS_ceq (by omega) (by omega)]
      have el := zgs_free hN (by omega) ht hu p
      by_cases hX0 : zcof m op nb i p = 0
      · have : zne (zgs m op nb (4 + 1) i p) = false := by
          unfold zne
          rw [el, (zbits_0 (show zcof m op nb i p < 256 by omega)).mpr hX0, Nat.zero_mul]
          rfl
        rw [decide_eq_true hX0, if_pos rfl, if_pos rfl, this]
        exact ⟨h, rfl, zK4_rf _ _⟩
      · have hb0 : zbits (zcof m op nb i p) ≠ 0 := fun e => hX0 ((zbits_0 (show zcof m op nb i p < 256 by omega)).mp e)
        have : zne (zgs m op nb (4 + 1) i p) = zne (zgs m op nb 4 (i + 1) (zu p i 0)) := by
          unfold zne
          rw [el, Bool.eq_iff_iff, decide_eq_true_iff, decide_eq_true_iff]
          constructor
          · intro a
            rcases Nat.eq_zero_or_pos (zgs m op nb 4 (i + 1) (zu p i 0)).length with e | e
            · rw [e, Nat.mul_zero] at a
              omega
            · exact e
          · intro a
            exact Nat.mul_pos (by omega) a
        obtain ⟨h', r1, r2⟩ := ih (i + 1) (zu p i 0) h (by omega) hR (zTr_u hN hi hT hu 0)
        rw [decide_eq_false hX0, if_neg (by decide), zS_add, r1, this]
        simp only [Option.bind_some, zpush]
        rw [zb_158_52, zS_b0, zS_bo0, zS_bo1]
        refine ⟨h', ?_, zK4_up r2⟩
        cases zne (zgs m op nb 4 (i + 1) (zu p i 0)) <;> rfl
    · rw [decide_eq_false hu, if_pos (by decide), zgs_s, ht, if_pos rfl]
      have loop : ∀ (n v : Nat) (g : zHp), v + n = 4 → zRP g m op nb → zTr g m nb i p → ∃ g', zr_158 63 [some (.inr 62), some (.inl (nI i)), some (.inl (nI (zcof m op nb i p))), some (.inl (nI v))] [] g = some (some (nI (zne (zsv (fun v => if (zcof m op nb i p).testBit v = true then zgs m op nb 4 (i + 1) (zu p i v) else []) v n)).toNat), g') ∧ zK4 i g g' := by
        intro n
        induction n with
        | zero =>
          intro v g hv hR hT
          refine ⟨g, ?_, zK4_rf _ _⟩
          rw [zb_158_63, zS_cge (by omega) (by omega), decide_eq_true (by omega), if_pos rfl, zS_bo0, if_pos rfl]
          rfl
        | succ n ih2 =>
          intro v g hv hR hT
          have hv4 : v < 4 := by omega
          have ezs : zsv (fun v => if (zcof m op nb i p).testBit v = true then zgs m op nb 4 (i + 1) (zu p i v) else []) v (n + 1) = (if (zcof m op nb i p).testBit v = true then zgs m op nb 4 (i + 1) (zu p i v) else []) ++ zsv (fun v => if (zcof m op nb i p).testBit v = true then zgs m op nb 4 (i + 1) (zu p i v) else []) (v + 1) n := rfl
          rw [ezs, zne_app, zb_158_63, zS_cge (by omega) (by omega), decide_eq_false (by omega), if_neg (by decide), zn_has g (by omega) (by omega)]
          simp only [Option.bind_some, zpush]
          rw [zb_158_73, zS_b0, zS_add, zS_add]
          cases hbit : (zcof m op nb i p).testBit v with
          | false =>
            rw [if_pos (by decide), if_neg (by decide)]
            exact ih2 (v + 1) g (by omega) hR hT
          | true =>
            obtain ⟨h1, r1, r2⟩ := ih (i + 1) (zu p i v) (zup g 74 i (nI v)) (by omega) (zRP_74 hR _) (zTr_s hT hv4)
            have K1 : zK4 i g h1 := zK4_74 r2
            obtain ⟨g', s1, s2⟩ := ih2 (v + 1) h1 (by omega) (zRP_k4 hR K1) (zTr_k4 hT K1)
            rw [if_neg (by decide), if_pos rfl, zS_ib _ (by omega), decide_eq_true hi, if_pos rfl, zS_cl (by omega), r1]
            simp only [Option.bind_some, zpush]
            rw [zb_158_90, zS_b0, zS_add, zS_bo1]
            cases hne : zne (zgs m op nb 4 (i + 1) (zu p i v)) with
            | true =>
              rw [if_neg (by decide), if_pos rfl]
              exact ⟨h1, rfl, K1⟩
            | false =>
              rw [if_pos (by decide)]
              exact ⟨g', s1, zK4_tr K1 s2⟩
      exact loop 4 0 h (by omega) hR hT
theorem zqc_147 {m op nb : Nat → Nat} (hB : zB m) (hN : zNC m op nb) (ih : zLC m op nb 5 zM_146) : zLC m op nb (5 + 1) zM_147 := by
  intro i p h hik hR hT
  have hi : i < 8 := by omega
  have ex : zth m (nI i) = zt m i := zth_nI (by omega)
  rw [ze_147, zS_clt (show i < 2147483648 by omega) (by omega), decide_eq_true hi, if_pos rfl, zn_there3 hR.1 hB, ex]
  simp only [Option.bind_some, zpush]
  rw [zb_147_16, zS_b0n]
  cases ht : zt m i with
  | false =>
    obtain ⟨h', r1, r2⟩ := ih (i + 1) (zu p i 0) h (by omega) hR (zTr_n hN hi hT ht 0)
    rw [zgs_s, ht, if_neg (by decide), if_neg (by decide), zS_add, r1]
    simp only [Option.bind_some, zpush]
    rw [zb_147_26]
    exact ⟨h', rfl, zK4_up r2⟩
  | true =>
    have hX := zcof_lt hN hi ht p
    rw [if_pos rfl, zn_cof hR hN hi ht (fun o ho hbit => hT o ho i (by omega) hi ht hbit)]
    simp only [Option.bind_some, zpush]
    rw [zb_147_32, zn_bnd hR hN hi ht]
    simp only [Option.bind_some, zpush]
    rw [zb_147_38, zS_b0n]
    by_cases hu : nb i >>> i = 0
    · obtain ⟨h', r1, r2⟩ := ih (i + 1) (zu p i 0) h (by omega) hR (zTr_u hN hi hT hu 0)
      rw [decide_eq_true hu, if_neg (by decide), zn_bits h (by omega), zgs_free hN (by omega) ht hu p]
      simp only [Option.bind_some, zpush]
      rw [zb_147_45, zS_add, r1]
      simp only [Option.bind_some, zpush]
      rw [zb_147_52, zS_mul]
      exact ⟨h', rfl, zK4_up r2⟩
    · rw [decide_eq_false hu, if_pos (by decide), zgs_s, ht, if_pos rfl]
      have loop : ∀ (n v acc : Nat) (g : zHp), v + n = 4 → zRP g m op nb → zTr g m nb i p → ∃ g', zr_147 59 [some (.inr 62), some (.inl (nI i)), some (.inl (nI (zcof m op nb i p))), some (.inl (nI acc)), some (.inl (nI v))] [] g = some (some (nI (acc + (zsv (fun v => if (zcof m op nb i p).testBit v = true then zgs m op nb 5 (i + 1) (zu p i v) else []) v n).length)), g') ∧ zK4 i g g' := by
        intro n
        induction n with
        | zero =>
          intro v acc g hv hR hT
          refine ⟨g, ?_, zK4_rf _ _⟩
          rw [zb_147_59, zS_cge (by omega) (by omega), decide_eq_true (by omega), if_pos rfl]
          rfl
        | succ n ih2 =>
          intro v acc g hv hR hT
          have hv4 : v < 4 := by omega
          have ezs : zsv (fun v => if (zcof m op nb i p).testBit v = true then zgs m op nb 5 (i + 1) (zu p i v) else []) v (n + 1) = (if (zcof m op nb i p).testBit v = true then zgs m op nb 5 (i + 1) (zu p i v) else []) ++ zsv (fun v => if (zcof m op nb i p).testBit v = true then zgs m op nb 5 (i + 1) (zu p i v) else []) (v + 1) n := rfl
          rw [ezs, List.length_append, zb_147_59, zS_cge (by omega) (by omega), decide_eq_false (by omega), if_neg (by decide), zn_has g (by omega) (by omega)]
          simp only [Option.bind_some, zpush]
          rw [zb_147_71, zS_b0, zS_add, zS_add]
          cases hbit : (zcof m op nb i p).testBit v with
          | false =>
            rw [if_pos (by decide), if_neg (by decide), List.length_nil, Nat.zero_add]
            exact ih2 (v + 1) acc g (by omega) hR hT
          | true =>
            obtain ⟨h1, r1, r2⟩ := ih (i + 1) (zu p i v) (zup g 74 i (nI v)) (by omega) (zRP_74 hR _) (zTr_s hT hv4)
            have K1 : zK4 i g h1 := zK4_74 r2
            obtain ⟨g', s1, s2⟩ := ih2 (v + 1) (acc + (zgs m op nb 5 (i + 1) (zu p i v)).length) h1 (by omega) (zRP_k4 hR K1) (zTr_k4 hT K1)
            rw [if_neg (by decide), if_pos rfl, zS_ib _ (by omega), decide_eq_true hi, if_pos rfl, zS_cl (by omega), r1]
            simp only [Option.bind_some, zpush]
            rw [zb_147_90, zS_add, zS_add, ← Nat.add_assoc]
            exact ⟨g', s1, zK4_tr K1 s2⟩
      obtain ⟨g', s1, s2⟩ := loop 4 0 0 h (by omega) hR hT
      rw [Nat.zero_add] at s1
      exact ⟨g', s1, s2⟩
theorem zqn_159 {m op nb : Nat → Nat} (hB : zB m) (hN : zNC m op nb) (ih : zLN m op nb 5 zM_158) : zLN m op nb (5 + 1) zM_159 := by
  intro i p h hik hR hT
  have hi : i < 8 := by omega
  have ex : zth m (nI i) = zt m i := zth_nI (by omega)
  rw [ze_159, zS_clt (show i < 2147483648 by omega) (by omega), decide_eq_true hi, if_pos rfl, zn_there3 hR.1 hB, ex]
  simp only [Option.bind_some, zpush]
  rw [zb_159_16, zS_b0n]
  cases ht : zt m i with
  | false =>
    obtain ⟨h', r1, r2⟩ := ih (i + 1) (zu p i 0) h (by omega) hR (zTr_n hN hi hT ht 0)
    rw [zgs_s, ht, if_neg (by decide), if_neg (by decide), zS_add, r1]
    simp only [Option.bind_some, zpush]
    rw [zb_159_26, zS_bo, if_pos rfl]
    exact ⟨h', rfl, zK4_up r2⟩
  | true =>
    have hX := zcof_lt hN hi ht p
    rw [if_pos rfl, zn_cof hR hN hi ht (fun o ho hbit => hT o ho i (by omega) hi ht hbit)]
    simp only [Option.bind_some, zpush]
    rw [zb_159_32, zn_bnd hR hN hi ht]
    simp only [Option.bind_some, zpush]
    rw [zb_159_38, zS_b0n, zS_bo0]
    by_cases hu : nb i >>> i = 0
    · rw [decide_eq_true hu, if_neg (by decide), zS_ceq (by omega) (by omega)]
      have el := zgs_free hN (by omega) ht hu p
      by_cases hX0 : zcof m op nb i p = 0
      · have : zne (zgs m op nb (5 + 1) i p) = false := by
          unfold zne
          rw [el, (zbits_0 (show zcof m op nb i p < 256 by omega)).mpr hX0, Nat.zero_mul]
          rfl
        rw [decide_eq_true hX0, if_pos rfl, if_pos rfl, this]
        exact ⟨h, rfl, zK4_rf _ _⟩
      · have hb0 : zbits (zcof m op nb i p) ≠ 0 := fun e => hX0 ((zbits_0 (show zcof m op nb i p < 256 by omega)).mp e)
        have : zne (zgs m op nb (5 + 1) i p) = zne (zgs m op nb 5 (i + 1) (zu p i 0)) := by
          unfold zne
          rw [el, Bool.eq_iff_iff, decide_eq_true_iff, decide_eq_true_iff]
          constructor
          · intro a
            rcases Nat.eq_zero_or_pos (zgs m op nb 5 (i + 1) (zu p i 0)).length with e | e
            · rw [e, Nat.mul_zero] at a
              omega
            · exact e
          · intro a
            exact Nat.mul_pos (by omega) a
        obtain ⟨h', r1, r2⟩ := ih (i + 1) (zu p i 0) h (by omega) hR (zTr_u hN hi hT hu 0)
        rw [decide_eq_false hX0, if_neg (by decide), zS_add, r1, this]
        simp only [Option.bind_some, zpush]
        rw [zb_159_52, zS_b0, zS_bo0, zS_bo1]
        refine ⟨h', ?_, zK4_up r2⟩
        cases zne (zgs m op nb 5 (i + 1) (zu p i 0)) <;> rfl
    · rw [decide_eq_false hu, if_pos (by decide), zgs_s, ht, if_pos rfl]
      have loop : ∀ (n v : Nat) (g : zHp), v + n = 4 → zRP g m op nb → zTr g m nb i p → ∃ g', zr_159 63 [some (.inr 62), some (.inl (nI i)), some (.inl (nI (zcof m op nb i p))), some (.inl (nI v))] [] g = some (some (nI (zne (zsv (fun v => if (zcof m op nb i p).testBit v = true then zgs m op nb 5 (i + 1) (zu p i v) else []) v n)).toNat), g') ∧ zK4 i g g' := by
        intro n
        induction n with
        | zero =>
          intro v g hv hR hT
          refine ⟨g, ?_, zK4_rf _ _⟩
          rw [zb_159_63, zS_cge (by omega) (by omega), decide_eq_true (by omega), if_pos rfl, zS_bo0, if_pos rfl]
          rfl
        | succ n ih2 =>
          intro v g hv hR hT
          have hv4 : v < 4 := by omega
          have ezs : zsv (fun v => if (zcof m op nb i p).testBit v = true then zgs m op nb 5 (i + 1) (zu p i v) else []) v (n + 1) = (if (zcof m op nb i p).testBit v = true then zgs m op nb 5 (i + 1) (zu p i v) else []) ++ zsv (fun v => if (zcof m op nb i p).testBit v = true then zgs m op nb 5 (i + 1) (zu p i v) else []) (v + 1) n := rfl
          rw [ezs, zne_app, zb_159_63, zS_cge (by omega) (by omega), decide_eq_false (by omega), if_neg (by decide), zn_has g (by omega) (by omega)]
          simp only [Option.bind_some, zpush]
          rw [zb_159_73, zS_b0, zS_add, zS_add]
          cases hbit : (zcof m op nb i p).testBit v with
          | false =>
            rw [if_pos (by decide), if_neg (by decide)]
            exact ih2 (v + 1) g (by omega) hR hT
          | true =>
            obtain ⟨h1, r1, r2⟩ := ih (i + 1) (zu p i v) (zup g 74 i (nI v)) (by omega) (zRP_74 hR _) (zTr_s hT hv4)
            have K1 : zK4 i g h1 := zK4_74 r2
            obtain ⟨g', s1, s2⟩ := ih2 (v + 1) h1 (by omega) (zRP_k4 hR K1) (zTr_k4 hT K1)
            rw [if_neg (by decide), if_pos rfl, zS_ib _ (by omega), decide_eq_true hi, if_pos rfl, zS_cl (by omega), r1]
            simp only [Option.bind_some, zpush]
            rw [zb_159_90, zS_b0, zS_add, zS_bo1]
            cases hne : zne (zgs m op nb 5 (i + 1) (zu p i v)) with
            | true =>
              rw [if_neg (by decide), if_pos rfl]
              exact ⟨h1, rfl, K1⟩
            | false =>
              rw [if_pos (by decide)]
              exact ⟨g', s1, zK4_tr K1 s2⟩
      exact loop 4 0 h (by omega) hR hT
theorem zqc_148 {m op nb : Nat → Nat} (hB : zB m) (hN : zNC m op nb) (ih : zLC m op nb 6 zM_147) : zLC m op nb (6 + 1) zM_148 := by
  intro i p h hik hR hT
  have hi : i < 8 := by omega
  have ex : zth m (nI i) = zt m i := zth_nI (by omega)
  rw [ze_148, zS_clt (show i < 2147483648 by omega) (by omega), decide_eq_true hi, if_pos rfl, zn_there3 hR.1 hB, ex]
  simp only [Option.bind_some, zpush]
  rw [zb_148_16, zS_b0n]
  cases ht : zt m i with
  | false =>
    obtain ⟨h', r1, r2⟩ := ih (i + 1) (zu p i 0) h (by omega) hR (zTr_n hN hi hT ht 0)
    rw [zgs_s, ht, if_neg (by decide), if_neg (by decide), zS_add, r1]
    simp only [Option.bind_some, zpush]
    rw [zb_148_26]
    exact ⟨h', rfl, zK4_up r2⟩
  | true =>
    have hX := zcof_lt hN hi ht p
    rw [if_pos rfl, zn_cof hR hN hi ht (fun o ho hbit => hT o ho i (by omega) hi ht hbit)]
    simp only [Option.bind_some, zpush]
    rw [zb_148_32, zn_bnd hR hN hi ht]
    simp only [Option.bind_some, zpush]
    rw [zb_148_38, zS_b0n]
    by_cases hu : nb i >>> i = 0
    · obtain ⟨h', r1, r2⟩ := ih (i + 1) (zu p i 0) h (by omega) hR (zTr_u hN hi hT hu 0)
      rw [decide_eq_true hu, if_neg (by decide), zn_bits h (by omega), zgs_free hN (by omega) ht hu p]
      simp only [Option.bind_some, zpush]
      rw [zb_148_45, zS_add, r1]
      simp only [Option.bind_some, zpush]
      rw [zb_148_52, zS_mul]
      exact ⟨h', rfl, zK4_up r2⟩
    · rw [decide_eq_false hu, if_pos (by decide), zgs_s, ht, if_pos rfl]
      have loop : ∀ (n v acc : Nat) (g : zHp), v + n = 4 → zRP g m op nb → zTr g m nb i p → ∃ g', zr_148 59 [some (.inr 62), some (.inl (nI i)), some (.inl (nI (zcof m op nb i p))), some (.inl (nI acc)), some (.inl (nI v))] [] g = some (some (nI (acc + (zsv (fun v => if (zcof m op nb i p).testBit v = true then zgs m op nb 6 (i + 1) (zu p i v) else []) v n).length)), g') ∧ zK4 i g g' := by
        intro n
        induction n with
        | zero =>
          intro v acc g hv hR hT
          refine ⟨g, ?_, zK4_rf _ _⟩
          rw [zb_148_59, zS_cge (by omega) (by omega), decide_eq_true (by omega), if_pos rfl]
          rfl
        | succ n ih2 =>
          intro v acc g hv hR hT
          have hv4 : v < 4 := by omega
          have ezs : zsv (fun v => if (zcof m op nb i p).testBit v = true then zgs m op nb 6 (i + 1) (zu p i v) else []) v (n + 1) = (if (zcof m op nb i p).testBit v = true then zgs m op nb 6 (i + 1) (zu p i v) else []) ++ zsv (fun v => if (zcof m op nb i p).testBit v = true then zgs m op nb 6 (i + 1) (zu p i v) else []) (v + 1) n := rfl
          rw [ezs, List.length_append, zb_148_59, zS_cge (by omega) (by omega), decide_eq_false (by omega), if_neg (by decide), zn_has g (by omega) (by omega)]
          simp only [Option.bind_some, zpush]
          rw [zb_148_71, zS_b0, zS_add, zS_add]
          cases hbit : (zcof m op nb i p).testBit v with
          | false =>
            rw [if_pos (by decide), if_neg (by decide), List.length_nil, Nat.zero_add]
            exact ih2 (v + 1) acc g (by omega) hR hT
          | true =>
            obtain ⟨h1, r1, r2⟩ := ih (i + 1) (zu p i v) (zup g 74 i (nI v)) (by omega) (zRP_74 hR _) (zTr_s hT hv4)
            have K1 : zK4 i g h1 := zK4_74 r2
            obtain ⟨g', s1, s2⟩ := ih2 (v + 1) (acc + (zgs m op nb 6 (i + 1) (zu p i v)).length) h1 (by omega) (zRP_k4 hR K1) (zTr_k4 hT K1)
            rw [if_neg (by decide), if_pos rfl, zS_ib _ (by omega), decide_eq_true hi, if_pos rfl, zS_cl (by omega), r1]
            simp only [Option.bind_some, zpush]
            rw [zb_148_90, zS_add, zS_add, ← Nat.add_assoc]
            exact ⟨g', s1, zK4_tr K1 s2⟩
      obtain ⟨g', s1, s2⟩ := loop 4 0 0 h (by omega) hR hT
      rw [Nat.zero_add] at s1
      exact ⟨g', s1, s2⟩
theorem zqn_160 {m op nb : Nat → Nat} (hB : zB m) (hN : zNC m op nb) (ih : zLN m op nb 6 zM_159) : zLN m op nb (6 + 1) zM_160 := by
  intro i p h hik hR hT
  have hi : i < 8 := by omega
  have ex : zth m (nI i) = zt m i := zth_nI (by omega)
  rw [ze_160, zS_clt (show i < 2147483648 by omega) (by omega), decide_eq_true hi, if_pos rfl, zn_there3 hR.1 hB, ex]
  simp only [Option.bind_some, zpush]
  rw [zb_160_16, zS_b0n]
  cases ht : zt m i with
  | false =>
    obtain ⟨h', r1, r2⟩ := ih (i + 1) (zu p i 0) h (by omega) hR (zTr_n hN hi hT ht 0)
    rw [zgs_s, ht, if_neg (by decide), if_neg (by decide), zS_add, r1]
    simp only [Option.bind_some, zpush]
    rw [zb_160_26, zS_bo, if_pos rfl]
    exact ⟨h', rfl, zK4_up r2⟩
  | true =>
    have hX := zcof_lt hN hi ht p
    rw [if_pos rfl, zn_cof hR hN hi ht (fun o ho hbit => hT o ho i (by omega) hi ht hbit)]
    simp only [Option.bind_some, zpush]
    rw [zb_160_32, zn_bnd hR hN hi ht]
    simp only [Option.bind_some, zpush]
    rw [zb_160_38, zS_b0n, zS_bo0]
    by_cases hu : nb i >>> i = 0
    · rw [decide_eq_true hu, if_neg (by decide), zS_ceq (by omega) (by omega)]
      have el := zgs_free hN (by omega) ht hu p
      by_cases hX0 : zcof m op nb i p = 0
      · have : zne (zgs m op nb (6 + 1) i p) = false := by
          unfold zne
          rw [el, (zbits_0 (show zcof m op nb i p < 256 by omega)).mpr hX0, Nat.zero_mul]
          rfl
        rw [decide_eq_true hX0, if_pos rfl, if_pos rfl, this]
        exact ⟨h, rfl, zK4_rf _ _⟩
      · have hb0 : zbits (zcof m op nb i p) ≠ 0 := fun e => hX0 ((zbits_0 (show zcof m op nb i p < 256 by omega)).mp e)
        have : zne (zgs m op nb (6 + 1) i p) = zne (zgs m op nb 6 (i + 1) (zu p i 0)) := by
          unfold zne
          rw [el, Bool.eq_iff_iff, decide_eq_true_iff, decide_eq_true_iff]
          constructor
          · intro a
            rcases Nat.eq_zero_or_pos (zgs m op nb 6 (i + 1) (zu p i 0)).length with e | e
            · rw [e, Nat.mul_zero] at a
              omega
            · exact e
          · intro a
            exact Nat.mul_pos (by omega) a
        obtain ⟨h', r1, r2⟩ := ih (i + 1) (zu p i 0) h (by omega) hR (zTr_u hN hi hT hu 0)
        rw [decide_eq_false hX0, if_neg (by decide), zS_add, r1, this]
        simp only [Option.bind_some, zpush]
        rw [zb_160_52, zS_b0, zS_bo0, zS_bo1]
        refine ⟨h', ?_, zK4_up r2⟩
        cases zne (zgs m op nb 6 (i + 1) (zu p i 0)) <;> rfl
    · rw [decide_eq_false hu, if_pos (by decide), zgs_s, ht, if_pos rfl]
      have loop : ∀ (n v : Nat) (g : zHp), v + n = 4 → zRP g m op nb → zTr g m nb i p → ∃ g', zr_160 63 [some (.inr 62), some (.inl (nI i)), some (.inl (nI (zcof m op nb i p))), some (.inl (nI v))] [] g = some (some (nI (zne (zsv (fun v => if (zcof m op nb i p).testBit v = true then zgs m op nb 6 (i + 1) (zu p i v) else []) v n)).toNat), g') ∧ zK4 i g g' := by
        intro n
        induction n with
        | zero =>
          intro v g hv hR hT
          refine ⟨g, ?_, zK4_rf _ _⟩
          rw [zb_160_63, zS_cge (by omega) (by omega), decide_eq_true (by omega), if_pos rfl, zS_bo0, if_pos rfl]
          rfl
        | succ n ih2 =>
          intro v g hv hR hT
          have hv4 : v < 4 := by omega
          have ezs : zsv (fun v => if (zcof m op nb i p).testBit v = true then zgs m op nb 6 (i + 1) (zu p i v) else []) v (n + 1) = (if (zcof m op nb i p).testBit v = true then zgs m op nb 6 (i + 1) (zu p i v) else []) ++ zsv (fun v => if (zcof m op nb i p).testBit v = true then zgs m op nb 6 (i + 1) (zu p i v) else []) (v + 1) n := rfl
          rw [ezs, zne_app, zb_160_63, zS_cge (by omega) (by omega), decide_eq_false (by omega), if_neg (by decide), zn_has g (by omega) (by omega)]
          simp only [Option.bind_some, zpush]
          rw [zb_160_73, zS_b0, zS_add, zS_add]
          cases hbit : (zcof m op nb i p).testBit v with
          | false =>
            rw [if_pos (by decide), if_neg (by decide)]
            exact ih2 (v + 1) g (by omega) hR hT
          | true =>
            obtain ⟨h1, r1, r2⟩ := ih (i + 1) (zu p i v) (zup g 74 i (nI v)) (by omega) (zRP_74 hR _) (zTr_s hT hv4)
            have K1 : zK4 i g h1 := zK4_74 r2
            obtain ⟨g', s1, s2⟩ := ih2 (v + 1) h1 (by omega) (zRP_k4 hR K1) (zTr_k4 hT K1)
            rw [if_neg (by decide), if_pos rfl, zS_ib _ (by omega), decide_eq_true hi, if_pos rfl, zS_cl (by omega), r1]
            simp only [Option.bind_some, zpush]
            rw [zb_160_90, zS_b0, zS_add, zS_bo1]
            cases hne : zne (zgs m op nb 6 (i + 1) (zu p i v)) with
            | true =>
              rw [if_neg (by decide), if_pos rfl]
              exact ⟨h1, rfl, K1⟩
            | false =>
              rw [if_pos (by decide)]
              exact ⟨g', s1, zK4_tr K1 s2⟩
      exact loop 4 0 h (by omega) hR hT
theorem zqc_149 {m op nb : Nat → Nat} (hB : zB m) (hN : zNC m op nb) (ih : zLC m op nb 7 zM_148) : zLC m op nb (7 + 1) zM_149 := by
  intro i p h hik hR hT
  have hi : i < 8 := by omega
  have ex : zth m (nI i) = zt m i := zth_nI (by omega)
  rw [ze_149, zS_clt (show i < 2147483648 by omega) (by omega), decide_eq_true hi, if_pos rfl, zn_there3 hR.1 hB, ex]
  simp only [Option.bind_some, zpush]
  rw [zb_149_16, zS_b0n]
  cases ht : zt m i with
  | false =>
    obtain ⟨h', r1, r2⟩ := ih (i + 1) (zu p i 0) h (by omega) hR (zTr_n hN hi hT ht 0)
    rw [zgs_s, ht, if_neg (by decide), if_neg (by decide), zS_add, r1]
    simp only [Option.bind_some, zpush]
    rw [zb_149_26]
    exact ⟨h', rfl, zK4_up r2⟩
  | true =>
    have hX := zcof_lt hN hi ht p
    rw [if_pos rfl, zn_cof hR hN hi ht (fun o ho hbit => hT o ho i (by omega) hi ht hbit)]
    simp only [Option.bind_some, zpush]
    rw [zb_149_32, zn_bnd hR hN hi ht]
    simp only [Option.bind_some, zpush]
    rw [zb_149_38, zS_b0n]
    by_cases hu : nb i >>> i = 0
    · obtain ⟨h', r1, r2⟩ := ih (i + 1) (zu p i 0) h (by omega) hR (zTr_u hN hi hT hu 0)
      rw [decide_eq_true hu, if_neg (by decide), zn_bits h (by omega), zgs_free hN (by omega) ht hu p]
      simp only [Option.bind_some, zpush]
      rw [zb_149_45, zS_add, r1]
      simp only [Option.bind_some, zpush]
      rw [zb_149_52, zS_mul]
      exact ⟨h', rfl, zK4_up r2⟩
    · rw [decide_eq_false hu, if_pos (by decide), zgs_s, ht, if_pos rfl]
      have loop : ∀ (n v acc : Nat) (g : zHp), v + n = 4 → zRP g m op nb → zTr g m nb i p → ∃ g', zr_149 59 [some (.inr 62), some (.inl (nI i)), some (.inl (nI (zcof m op nb i p))), some (.inl (nI acc)), some (.inl (nI v))] [] g = some (some (nI (acc + (zsv (fun v => if (zcof m op nb i p).testBit v = true then zgs m op nb 7 (i + 1) (zu p i v) else []) v n).length)), g') ∧ zK4 i g g' := by
        intro n
        induction n with
        | zero =>
          intro v acc g hv hR hT
          refine ⟨g, ?_, zK4_rf _ _⟩
          rw [zb_149_59, zS_cge (by omega) (by omega), decide_eq_true (by omega), if_pos rfl]
          rfl
        | succ n ih2 =>
          intro v acc g hv hR hT
          have hv4 : v < 4 := by omega
          have ezs : zsv (fun v => if (zcof m op nb i p).testBit v = true then zgs m op nb 7 (i + 1) (zu p i v) else []) v (n + 1) = (if (zcof m op nb i p).testBit v = true then zgs m op nb 7 (i + 1) (zu p i v) else []) ++ zsv (fun v => if (zcof m op nb i p).testBit v = true then zgs m op nb 7 (i + 1) (zu p i v) else []) (v + 1) n := rfl
          rw [ezs, List.length_append, zb_149_59, zS_cge (by omega) (by omega), decide_eq_false (by omega), if_neg (by decide), zn_has g (by omega) (by omega)]
          simp only [Option.bind_some, zpush]
          rw [zb_149_71, zS_b0, zS_add, zS_add]
          cases hbit : (zcof m op nb i p).testBit v with
          | false =>
            rw [if_pos (by decide), if_neg (by decide), List.length_nil, Nat.zero_add]
            exact ih2 (v + 1) acc g (by omega) hR hT
          | true =>
            obtain ⟨h1, r1, r2⟩ := ih (i + 1) (zu p i v) (zup g 74 i (nI v)) (by omega) (zRP_74 hR _) (zTr_s hT hv4)
            have K1 : zK4 i g h1 := zK4_74 r2
            obtain ⟨g', s1, s2⟩ := ih2 (v + 1) (acc + (zgs m op nb 7 (i + 1) (zu p i v)).length) h1 (by omega) (zRP_k4 hR K1) (zTr_k4 hT K1)
            rw [if_neg (by decide), if_pos rfl, zS_ib _ (by omega), decide_eq_true hi, if_pos rfl, zS_cl (by omega), r1]
            simp only [Option.bind_some, zpush]
            rw [zb_149_90, zS_add, zS_add, ← Nat.add_assoc]
            exact ⟨g', s1, zK4_tr K1 s2⟩
      obtain ⟨g', s1, s2⟩ := loop 4 0 0 h (by omega) hR hT
      rw [Nat.zero_add] at s1
      exact ⟨g', s1, s2⟩
theorem zqn_161 {m op nb : Nat → Nat} (hB : zB m) (hN : zNC m op nb) (ih : zLN m op nb 7 zM_160) : zLN m op nb (7 + 1) zM_161 := by
  intro i p h hik hR hT
  have hi : i < 8 := by omega
  have ex : zth m (nI i) = zt m i := zth_nI (by omega)
  rw [ze_161, zS_clt (show i < 2147483648 by omega) (by omega), decide_eq_true hi, if_pos rfl, zn_there3 hR.1 hB, ex]
  simp only [Option.bind_some, zpush]
  rw [zb_161_16, zS_b0n]
  cases ht : zt m i with
  | false =>
    obtain ⟨h', r1, r2⟩ := ih (i + 1) (zu p i 0) h (by omega) hR (zTr_n hN hi hT ht 0)
    rw [zgs_s, ht, if_neg (by decide), if_neg (by decide), zS_add, r1]
    simp only [Option.bind_some, zpush]
    rw [zb_161_26, zS_bo, if_pos rfl]
    exact ⟨h', rfl, zK4_up r2⟩
  | true =>
    have hX := zcof_lt hN hi ht p
    rw [if_pos rfl, zn_cof hR hN hi ht (fun o ho hbit => hT o ho i (by omega) hi ht hbit)]
    simp only [Option.bind_some, zpush]
    rw [zb_161_32, zn_bnd hR hN hi ht]
    simp only [Option.bind_some, zpush]
    rw [zb_161_38, zS_b0n, zS_bo0]
    by_cases hu : nb i >>> i = 0
    · rw [decide_eq_true hu, if_neg (by decide), zS_ceq (by omega) (by omega)]
      have el := zgs_free hN (by omega) ht hu p
      by_cases hX0 : zcof m op nb i p = 0
      · have : zne (zgs m op nb (7 + 1) i p) = false := by
          unfold zne
          rw [el, (zbits_0 (show zcof m op nb i p < 256 by omega)).mpr hX0, Nat.zero_mul]
          rfl
        rw [decide_eq_true hX0, if_pos rfl, if_pos rfl, this]
        exact ⟨h, rfl, zK4_rf _ _⟩
      · have hb0 : zbits (zcof m op nb i p) ≠ 0 := fun e => hX0 ((zbits_0 (show zcof m op nb i p < 256 by omega)).mp e)
        have : zne (zgs m op nb (7 + 1) i p) = zne (zgs m op nb 7 (i + 1) (zu p i 0)) := by
          unfold zne
          rw [el, Bool.eq_iff_iff, decide_eq_true_iff, decide_eq_true_iff]
          constructor
          · intro a
            rcases Nat.eq_zero_or_pos (zgs m op nb 7 (i + 1) (zu p i 0)).length with e | e
            · rw [e, Nat.mul_zero] at a
              omega
            · exact e
          · intro a
            exact Nat.mul_pos (by omega) a
        obtain ⟨h', r1, r2⟩ := ih (i + 1) (zu p i 0) h (by omega) hR (zTr_u hN hi hT hu 0)
        rw [decide_eq_false hX0, if_neg (by decide), zS_add, r1, this]
        simp only [Option.bind_some, zpush]
        rw [zb_161_52, zS_b0, zS_bo0, zS_bo1]
        refine ⟨h', ?_, zK4_up r2⟩
        cases zne (zgs m op nb 7 (i + 1) (zu p i 0)) <;> rfl
    · rw [decide_eq_false hu, if_pos (by decide), zgs_s, ht, if_pos rfl]
      have loop : ∀ (n v : Nat) (g : zHp), v + n = 4 → zRP g m op nb → zTr g m nb i p → ∃ g', zr_161 63 [some (.inr 62), some (.inl (nI i)), some (.inl (nI (zcof m op nb i p))), some (.inl (nI v))] [] g = some (some (nI (zne (zsv (fun v => if (zcof m op nb i p).testBit v = true then zgs m op nb 7 (i + 1) (zu p i v) else []) v n)).toNat), g') ∧ zK4 i g g' := by
        intro n
        induction n with
        | zero =>
          intro v g hv hR hT
          refine ⟨g, ?_, zK4_rf _ _⟩
          rw [zb_161_63, zS_cge (by omega) (by omega), decide_eq_true (by omega), if_pos rfl, zS_bo0, if_pos rfl]
          rfl
        | succ n ih2 =>
          intro v g hv hR hT
          have hv4 : v < 4 := by omega
          have ezs : zsv (fun v => if (zcof m op nb i p).testBit v = true then zgs m op nb 7 (i + 1) (zu p i v) else []) v (n + 1) = (if (zcof m op nb i p).testBit v = true then zgs m op nb 7 (i + 1) (zu p i v) else []) ++ zsv (fun v => if (zcof m op nb i p).testBit v = true then zgs m op nb 7 (i + 1) (zu p i v) else []) (v + 1) n := rfl
          rw [ezs, zne_app, zb_161_63, zS_cge (by omega) (by omega), decide_eq_false (by omega), if_neg (by decide), zn_has g (by omega) (by omega)]
          simp only [Option.bind_some, zpush]
          rw [zb_161_73, zS_b0, zS_add, zS_add]
          cases hbit : (zcof m op nb i p).testBit v with
          | false =>
            rw [if_pos (by decide), if_neg (by decide)]
            exact ih2 (v + 1) g (by omega) hR hT
          | true =>
            obtain ⟨h1, r1, r2⟩ := ih (i + 1) (zu p i v) (zup g 74 i (nI v)) (by omega) (zRP_74 hR _) (zTr_s hT hv4)
            have K1 : zK4 i g h1 := zK4_74 r2
            obtain ⟨g', s1, s2⟩ := ih2 (v + 1) h1 (by omega) (zRP_k4 hR K1) (zTr_k4 hT K1)
            rw [if_neg (by decide), if_pos rfl, zS_ib _ (by omega), decide_eq_true hi, if_pos rfl, zS_cl (by omega), r1]
            simp only [Option.bind_some, zpush]
            rw [zb_161_90, zS_b0, zS_add, zS_bo1]
            cases hne : zne (zgs m op nb 7 (i + 1) (zu p i v)) with
            | true =>
              rw [if_neg (by decide), if_pos rfl]
              exact ⟨h1, rfl, K1⟩
            | false =>
              rw [if_pos (by decide)]
              exact ⟨g', s1, zK4_tr K1 s2⟩
      exact loop 4 0 h (by omega) hR hT
theorem zqc_top {m op nb : Nat → Nat} (hB : zB m) (hN : zNC m op nb) : zLC m op nb 8 zM_149 := zqc_149 hB hN (zqc_148 hB hN (zqc_147 hB hN (zqc_146 hB hN (zqc_145 hB hN (zqc_144 hB hN (zqc_143 hB hN (zqc_142 hB hN zqc_141)))))))
theorem zqn_top {m op nb : Nat → Nat} (hB : zB m) (hN : zNC m op nb) : zLN m op nb 8 zM_161 := zqn_161 hB hN (zqn_160 hB hN (zqn_159 hB hN (zqn_158 hB hN (zqn_157 hB hN (zqn_156 hB hN (zqn_155 hB hN (zqn_154 hB hN zqn_153)))))))
