/-! findLeast of the class: its levels. (Printed by gen98k.py) -/
theorem zfl_106 {m op nb : Nat → Nat} (hI : zI m) (hN : zNC m op nb) (ih : zFL m op nb 0 zM_105) : zFL m op nb (0 + 1) zM_106 := by
  intro i p h b hik hR hT hb
  have hB := hI.1
  have hi : i < 8 := by omega
  have c1 := zpc_le hB p (i := i) (by omega)
  by_cases hpr : ∃ q, b = some q ∧ zcost m q ≤ zpc m p i
  · obtain ⟨q, rfl, hq⟩ := hpr
    have c2 := zcost_le hB q
    have e6 : h 62 6 = nI 1 := hb.1
    rw [zprune hB (by omega) hq]
    refine ⟨h, ?_, hb, zKl_rf _ _⟩
    rw [ze_106, e6, if_neg (by decide), (hb.2 q rfl).1, zS_clt (by omega) (by omega), decide_eq_false (by omega), if_neg (by decide)]
  · have go : zM_106 [.inr 62, .inl (nI i), .inl (nI (zpc m p i))] h = (zM_70 [.inr 63, .inl (nI i)] h).bind (fun r => zr_106 56 [some (.inr 62), some (.inl (nI i)), some (.inl (nI (zpc m p i))), none, none, none] (zpush r.1 []) r.2) := by
      rw [ze_106, zS_clt (show i < 2147483648 by omega) (by omega), decide_eq_true hi, if_pos rfl]
      cases b with
      | none =>
        have e6 : h 62 6 = nI 0 := hb.1
        rw [e6, if_pos (by decide)]
      | some q =>
        have e6 : h 62 6 = nI 1 := hb.1
        have c2 := zcost_le hB q
        have : zpc m p i < zcost m q := by
          rcases Nat.lt_or_ge (zpc m p i) (zcost m q) with a | a
          · exact a
          · exact absurd ⟨q, rfl, a⟩ hpr
        rw [e6, if_neg (by decide), (hb.2 q rfl).1, zS_clt (by omega) (by omega), decide_eq_true this, if_pos rfl]
    have ex : zth m (nI i) = zt m i := zth_nI (by omega)
    rw [go, zn_there3 hR.1 hB, ex, zgs_s]
    simp only [Option.bind_some, zpush]
    rw [zb_106_56, zS_b0n]
    cases ht : zt m i with
    | false =>
      have ep : zpc m (zu p i 0) (i + 1) = zpc m p i := by
        rw [zpc_s, ht, if_neg (by simp), Nat.add_zero]
        exact zpc_congr (fun c hc => zu_ne _ (by omega) _)
      obtain ⟨h', r1, r2, r3⟩ := ih (i + 1) (zu p i 0) h b (by omega) hR (zTf_n hT ht 0) hb
      rw [ep] at r1
      rw [if_neg (by decide), if_neg (by decide), zS_add, r1]
      simp only [Option.bind_some, zpush]
      rw [zb_106_67]
      exact ⟨h', rfl, r2, zKl_up r3⟩
    | true =>
      have hX := zcof_lt hN hi ht p
      rw [if_pos rfl, if_pos rfl, zn_cof hR hN hi ht (fun o ho hbit => hT o ho ((hN i hi ht).2.2 o (by omega) hbit).1)]
      simp only [Option.bind_some, zpush]
      rw [zb_106_73]
      have loop : ∀ (n v : Nat) (g : zHp) (b : Option (Nat → Nat)) (d5 : Option zV), v + n = 4 → zRP g m op nb → zTf g m i p → zBs g m b → ∃ g', zr_106 77 [some (.inr 62), some (.inl (nI i)), some (.inl (nI (zpc m p i))), some (.inl (nI (zcof m op nb i p))), some (.inl (nI v)), d5] [] g = some (none, g') ∧ zBs g' m ((zsv (fun v => if (zcof m op nb i p).testBit v = true then zgs m op nb 0 (i + 1) (zu p i v) else []) v n).foldl (zbst m) b) ∧ zKl i g g' := by
        intro n
        induction n with
        | zero =>
          intro v g b d5 hv hR hT hb
          refine ⟨g, ?_, hb, zKl_rf _ _⟩
          rw [zb_106_77, zS_cge (by omega) (by omega), decide_eq_true (by omega), if_pos rfl]
        | succ n ih2 =>
          intro v g b d5 hv hR hT hb
          have hv4 : v < 4 := by omega
          have ezs : zsv (fun v => if (zcof m op nb i p).testBit v = true then zgs m op nb 0 (i + 1) (zu p i v) else []) v (n + 1) = (if (zcof m op nb i p).testBit v = true then zgs m op nb 0 (i + 1) (zu p i v) else []) ++ zsv (fun v => if (zcof m op nb i p).testBit v = true then zgs m op nb 0 (i + 1) (zu p i v) else []) (v + 1) n := rfl
          rw [ezs, List.foldl_append, zb_106_77, zS_cge (by omega) (by omega), decide_eq_false (by omega), if_neg (by decide), zn_has g (by omega) (by omega)]
          simp only [Option.bind_some, zpush]
          rw [zb_106_89, zS_b0]
          cases hbit : (zcof m op nb i p).testBit v with
          | false =>
            rw [if_pos (by decide), zb_106_140, zS_add, if_neg (by decide)]
            exact ih2 (v + 1) g b d5 (by omega) hR hT hb
          | true =>
            have v1 : g 64 i = nI (zof m i 1) := (hR.1.2.1 i hi ht).1
            have v3 : g 66 i = nI (zof m i 3) := (hR.1.2.1 i hi ht).2.2
            have b1 := zB_1 hB hi
            have b3 := zB_3 hB hi
            have ecut : zpc m (zu p i v) i = zpc m p i := zpc_congr (fun c hc => zu_ne _ (by omega) _)
            have ep := zpc_s m (zu p i v) i
            rw [zu_same, ecut] at ep
            obtain ⟨h1, r1, r2, r3⟩ := ih (i + 1) (zu p i v) (zup g 74 i (nI v)) b (by omega) (zRP_74 hR _) (zTf_s hT hv4) (zBs_74 hb _)
            rw [ep] at r1
            have K1 : zKl i g h1 := zKl_74 r3
            rw [if_neg (by decide), if_pos rfl, zS_ib _ (by omega), decide_eq_true hi, if_pos rfl, if_pos rfl, if_pos rfl, zS_cl (by omega), zS_zup_ne g (show (64 : Nat) ≠ 74 by omega), zS_zup_ne g (show (66 : Nat) ≠ 74 by omega), v1, v3, zS_cne (by omega) (by omega), zS_add, zS_add, zS_add]
            have tail : ∀ d, zM_105 [.inr 62, .inl (nI (i + 1)), .inl (nI (zpc m p i + d))] (zup g 74 i (nI v)) = some (none, h1) → ∀ y : Option zV, ∃ g', (zM_105 [.inr 62, .inl (nI (i + 1)), .inl (nI (zpc m p i + d))] (zup g 74 i (nI v))).bind (fun r => zr_106 140 [some (.inr 62), some (.inl (nI i)), some (.inl (nI (zpc m p i))), some (.inl (nI (zcof m op nb i p))), some (.inl (nI v)), y] (zpush r.1 []) r.2) = some (none, g') ∧ zBs g' m ((zsv (fun v => if (zcof m op nb i p).testBit v = true then zgs m op nb 0 (i + 1) (zu p i v) else []) (v + 1) n).foldl (zbst m) ((zgs m op nb 0 (i + 1) (zu p i v)).foldl (zbst m) b)) ∧ zKl i g g' := by
              intro d hd y
              obtain ⟨g', s1, s2, s3⟩ := ih2 (v + 1) h1 _ y (by omega) (zRP_kl hR K1) (zTf_kl hT K1) r2
              refine ⟨g', ?_, s2, zKl_tr K1 s3⟩
              rw [hd]
              simp only [Option.bind_some, zpush]
              rw [zb_106_140, zS_add]
              exact s1
            by_cases hvc : v = zof m i 1
            · rw [if_neg (fun e => e.2 hvc)] at r1
              rw [decide_eq_true hvc, if_neg (by decide)]
              exact tail 0 r1 _
            · rw [if_pos ⟨ht, hvc⟩] at r1
              rw [decide_eq_false hvc, if_pos (by decide)]
              exact tail (zof m i 3) r1 _
      exact loop 4 0 h b none (by omega) hR hT hb
theorem zfl_107 {m op nb : Nat → Nat} (hI : zI m) (hN : zNC m op nb) (ih : zFL m op nb 1 zM_106) : zFL m op nb (1 + 1) zM_107 := by
  intro i p h b hik hR hT hb
  have hB := hI.1
  have hi : i < 8 := by omega
  have c1 := zpc_le hB p (i := i) (by omega)
  by_cases hpr : ∃ q, b = some q ∧ zcost m q ≤ zpc m p i
  · obtain ⟨q, rfl, hq⟩ := hpr
    have c2 := zcost_le hB q
    have e6 : h 62 6 = nI 1 := hb.1
    rw [zprune hB (by omega) hq]
    refine ⟨h, ?_, hb, zKl_rf _ _⟩
    rw [ze_107, e6, if_neg (by decide), (hb.2 q rfl).1, zS_clt (by omega) (by omega), decide_eq_false (by omega), if_neg (by decide)]
  · have go : zM_107 [.inr 62, .inl (nI i), .inl (nI (zpc m p i))] h = (zM_70 [.inr 63, .inl (nI i)] h).bind (fun r => zr_107 56 [some (.inr 62), some (.inl (nI i)), some (.inl (nI (zpc m p i))), none, none, none] (zpush r.1 []) r.2) := by
      rw [ze_107, zS_clt (show i < 2147483648 by omega) (by omega), decide_eq_true hi, if_pos rfl]
      cases b with
      | none =>
        have e6 : h 62 6 = nI 0 := hb.1
        rw [e6, if_pos (by decide)]
      | some q =>
        have e6 : h 62 6 = nI 1 := hb.1
        have c2 := zcost_le hB q
        have : zpc m p i < zcost m q := by
          rcases Nat.lt_or_ge (zpc m p i) (zcost m q) with a | a
          · exact a
          · exact absurd ⟨q, rfl, a⟩ hpr
        rw [e6, if_neg (by decide), (hb.2 q rfl).1, zS_clt (by omega) (by omega), decide_eq_true this, if_pos rfl]
    have ex : zth m (nI i) = zt m i := zth_nI (by omega)
    rw [go, zn_there3 hR.1 hB, ex, zgs_s]
    simp only [Option.bind_some, zpush]
    rw [zb_107_56, zS_b0n]
    cases ht : zt m i with
    | false =>
      have ep : zpc m (zu p i 0) (i + 1) = zpc m p i := by
        rw [zpc_s, ht, if_neg (by simp), Nat.add_zero]
        exact zpc_congr (fun c hc => zu_ne _ (by omega) _)
      obtain ⟨h', r1, r2, r3⟩ := ih (i + 1) (zu p i 0) h b (by omega) hR (zTf_n hT ht 0) hb
      rw [ep] at r1
      rw [if_neg (by decide), if_neg (by decide), zS_add, r1]
      simp only [Option.bind_some, zpush]
      rw [zb_107_67]
      exact ⟨h', rfl, r2, zKl_up r3⟩
    | true =>
      have hX := zcof_lt hN hi ht p
      rw [if_pos rfl, if_pos rfl, zn_cof hR hN hi ht (fun o ho hbit => hT o ho ((hN i hi ht).2.2 o (by omega) hbit).1)]
      simp only [Option.bind_some, zpush]
      rw [zb_107_73]
      have loop : ∀ (n v : Nat) (g : zHp) (b : Option (Nat → Nat)) (d5 : Option zV), v + n = 4 → zRP g m op nb → zTf g m i p → zBs g m b → ∃ g', zr_107 77 [some (.inr 62), some (.inl (nI i)), some (.inl (nI (zpc m p i))), some (.inl (nI (zcof m op nb i p))), some (.inl (nI v)), d5] [] g = some (none, g') ∧ zBs g' m ((zsv (fun v => if (zcof m op nb i p).testBit v = true then zgs m op nb 1 (i + 1) (zu p i v) else []) v n).foldl (zbst m) b) ∧ zKl i g g' := by
        intro n
        induction n with
        | zero =>
          intro v g b d5 hv hR hT hb
          refine ⟨g, ?_, hb, zKl_rf _ _⟩
          rw [zb_107_77, zS_cge (by omega) (by omega), decide_eq_true (by omega), if_pos rfl]
        | succ n ih2 =>
          intro v g b d5 hv hR hT hb
          have hv4 : v < 4 := by omega
          have ezs : zsv (fun v => if (zcof m op nb i p).testBit v = true then zgs m op nb 1 (i + 1) (zu p i v) else []) v (n + 1) = (if (zcof m op nb i p).testBit v = true then zgs m op nb 1 (i + 1) (zu p i v) else []) ++ zsv (fun v => if (zcof m op nb i p).testBit v = true then zgs m op nb 1 (i + 1) (zu p i v) else []) (v + 1) n := rfl
          rw [ezs, List.foldl_append, zb_107_77, zS_cge (by omega) (by omega), decide_eq_false (by omega), if_neg (by decide), zn_has g (by omega) (by omega)]
          simp only [Option.bind_some, zpush]
          rw [zb_107_89, zS_b0]
          cases hbit : (zcof m op nb i p).testBit v with
          | false =>
            rw [if_pos (by decide), zb_107_140, zS_add, if_neg (by decide)]
            exact ih2 (v + 1) g b d5 (by omega) hR hT hb
          | true =>
            have v1 : g 64 i = nI (zof m i 1) := (hR.1.2.1 i hi ht).1
            have v3 : g 66 i = nI (zof m i 3) := (hR.1.2.1 i hi ht).2.2
            have b1 := zB_1 hB hi
            have b3 := zB_3 hB hi
            have ecut : zpc m (zu p i v) i = zpc m p i := zpc_congr (fun c hc => zu_ne _ (by omega) _)
            have ep := zpc_s m (zu p i v) i
            rw [zu_same, ecut] at ep
            obtain ⟨h1, r1, r2, r3⟩ := ih (i + 1) (zu p i v) (zup g 74 i (nI v)) b (by omega) (zRP_74 hR _) (zTf_s hT hv4) (zBs_74 hb _)
            rw [ep] at r1
            have K1 : zKl i g h1 := zKl_74 r3
            rw [if_neg (by decide), if_pos rfl, zS_ib _ (by omega), decide_eq_true hi, if_pos rfl, if_pos rfl, if_pos rfl, zS_cl (by omega), zS_zup_ne g (show (64 : Nat) ≠ 74 by omega), zS_zup_ne g (show (66 : Nat) ≠ 74 by omega), v1, v3, zS_cne (by omega) (by omega), zS_add, zS_add, zS_add]
            have tail : ∀ d, zM_106 [.inr 62, .inl (nI (i + 1)), .inl (nI (zpc m p i + d))] (zup g 74 i (nI v)) = some (none, h1) → ∀ y : Option zV, ∃ g', (zM_106 [.inr 62, .inl (nI (i + 1)), .inl (nI (zpc m p i + d))] (zup g 74 i (nI v))).bind (fun r => zr_107 140 [some (.inr 62), some (.inl (nI i)), some (.inl (nI (zpc m p i))), some (.inl (nI (zcof m op nb i p))), some (.inl (nI v)), y] (zpush r.1 []) r.2) = some (none, g') ∧ zBs g' m ((zsv (fun v => if (zcof m op nb i p).testBit v = true then zgs m op nb 1 (i + 1) (zu p i v) else []) (v + 1) n).foldl (zbst m) ((zgs m op nb 1 (i + 1) (zu p i v)).foldl (zbst m) b)) ∧ zKl i g g' := by
              intro d hd y
              obtain ⟨g', s1, s2, s3⟩ := ih2 (v + 1) h1 _ y (by omega) (zRP_kl hR K1) (zTf_kl hT K1) r2
              refine ⟨g', ?_, s2, zKl_tr K1 s3⟩
              rw [hd]
              simp only [Option.bind_some, zpush]
              rw [zb_107_140, zS_add]
              exact s1
            by_cases hvc : v = zof m i 1
            · rw [if_neg (fun e => e.2 hvc)] at r1
              rw [decide_eq_true hvc, if_neg (by decide)]
              exact tail 0 r1 _
            · rw [if_pos ⟨ht, hvc⟩] at r1
              rw [decide_eq_false hvc, if_pos (by decide)]
              exact tail (zof m i 3) r1 _
      exact loop 4 0 h b none (by omega) hR hT hb
theorem zfl_108 {m op nb : Nat → Nat} (hI : zI m) (hN : zNC m op nb) (ih : zFL m op nb 2 zM_107) : zFL m op nb (2 + 1) zM_108 := by
  intro i p h b hik hR hT hb
  have hB := hI.1
  have hi : i < 8 := by omega
  have c1 := zpc_le hB p (i := i) (by omega)
  by_cases hpr : ∃ q, b = some q ∧ zcost m q ≤ zpc m p i
  · obtain ⟨q, rfl, hq⟩ := hpr
    have c2 := zcost_le hB q
    have e6 : h 62 6 = nI 1 := hb.1
    rw [zprune hB (by omega) hq]
    refine ⟨h, ?_, hb, zKl_rf _ _⟩
    rw [ze_108, e6, if_neg (by decide), (hb.2 q rfl).1, zS_clt (by omega) (by omega), decide_eq_false (by omega), if_neg (by decide)]
  · have go : zM_108 [.inr 62, .inl (nI i), .inl (nI (zpc m p i))] h = (zM_70 [.inr 63, .inl (nI i)] h).bind (fun r => zr_108 56 [some (.inr 62), some (.inl (nI i)), some (.inl (nI (zpc m p i))), none, none, none] (zpush r.1 []) r.2) := by
      rw [ze_108, zS_clt (show i < 2147483648 by omega) (by omega), decide_eq_true hi, if_pos rfl]
      cases b with
      | none =>
        have e6 : h 62 6 = nI 0 := hb.1
        rw [e6, if_pos (by decide)]
      | some q =>
        have e6 : h 62 6 = nI 1 := hb.1
        have c2 := zcost_le hB q
        have : zpc m p i < zcost m q := by
          rcases Nat.lt_or_ge (zpc m p i) (zcost m q) with a | a
          · exact a
          · exact absurd ⟨q, rfl, a⟩ hpr
        rw [e6, if_neg (by decide), (hb.2 q rfl).1, zS_clt (by omega) (by omega), decide_eq_true this, if_pos rfl]
    have ex : zth m (nI i) = zt m i := zth_nI (by omega)
    rw [go, zn_there3 hR.1 hB, ex, zgs_s]
    simp only [Option.bind_some, zpush]
    rw [zb_108_56, zS_b0n]
    cases ht : zt m i with
    | false =>
      have ep : zpc m (zu p i 0) (i + 1) = zpc m p i := by
        rw [zpc_s, ht, if_neg (by simp), Nat.add_zero]
        exact zpc_congr (fun c hc => zu_ne _ (by omega) _)
      obtain ⟨h', r1, r2, r3⟩ := ih (i + 1) (zu p i 0) h b (by omega) hR (zTf_n hT ht 0) hb
      rw [ep] at r1
      rw [if_neg (by decide), if_neg (by decide), zS_add, r1]
      simp only [Option.bind_some, zpush]
      rw [zb_108_67]
      exact ⟨h', rfl, r2, zKl_up r3⟩
    | true =>
      have hX := zcof_lt hN hi ht p
      rw [if_pos rfl, if_pos rfl, zn_cof hR hN hi ht (fun o ho hbit => hT o ho ((hN i hi ht).2.2 o (by omega) hbit).1)]
      simp only [Option.bind_some, zpush]
      rw [zb_108_73]
      have loop : ∀ (n v : Nat) (g : zHp) (b : Option (Nat → Nat)) (d5 : Option zV), v + n = 4 → zRP g m op nb → zTf g m i p → zBs g m b → ∃ g', zr_108 77 [some (.inr 62), some (.inl (nI i)), some (.inl (nI (zpc m p i))), some (.inl (nI (zcof m op nb i p))), some (.inl (nI v)), d5] [] g = some (none, g') ∧ zBs g' m ((zsv (fun v => if (zcof m op nb i p).testBit v = true then zgs m op nb 2 (i + 1) (zu p i v) else []) v n).foldl (zbst m) b) ∧ zKl i g g' := by
        intro n
        induction n with
        | zero =>
          intro v g b d5 hv hR hT hb
          refine ⟨g, ?_, hb, zKl_rf _ _⟩
          rw [zb_108_77, zS_cge (by omega) (by omega), decide_eq_true (by omega), if_pos rfl]
        | succ n ih2 =>
          intro v g b d5 hv hR hT hb
          have hv4 : v < 4 := by omega
          have ezs : zsv (fun v => if (zcof m op nb i p).testBit v = true then zgs m op nb 2 (i + 1) (zu p i v) else []) v (n + 1) = (if (zcof m op nb i p).testBit v = true then zgs m op nb 2 (i + 1) (zu p i v) else []) ++ zsv (fun v => if (zcof m op nb i p).testBit v = true then zgs m op nb 2 (i + 1) (zu p i v) else []) (v + 1) n := rfl
          rw [ezs, List.foldl_append, zb_108_77, zS_cge (by omega) (by omega), decide_eq_false (by omega), if_neg (by decide), zn_has g (by omega) (by omega)]
          simp only [Option.bind_some, zpush]
          rw [zb_108_89, zS_b0]
          cases hbit : (zcof m op nb i p).testBit v with
          | false =>
            rw [if_pos (by decide), zb_108_140, zS_add, if_neg (by decide)]
            exact ih2 (v + 1) g b d5 (by omega) hR hT hb
          | true =>
            have v1 : g 64 i = nI (zof m i 1) := (hR.1.2.1 i hi ht).1
            have v3 : g 66 i = nI (zof m i 3) := (hR.1.2.1 i hi ht).2.2
            have b1 := zB_1 hB hi
            have b3 := zB_3 hB hi
            have ecut : zpc m (zu p i v) i = zpc m p i := zpc_congr (fun c hc => zu_ne _ (by omega) _)
            have ep := zpc_s m (zu p i v) i
            rw [zu_same, ecut] at ep
            obtain ⟨h1, r1, r2, r3⟩ := ih (i + 1) (zu p i v) (zup g 74 i (nI v)) b (by omega) (zRP_74 hR _) (zTf_s hT hv4) (zBs_74 hb _)
            rw [ep] at r1
            have K1 : zKl i g h1 := zKl_74 r3
            rw [if_neg (by decide), if_pos rfl, zS_ib _ (by omega), decide_eq_true hi, if_pos rfl, if_pos rfl, if_pos rfl, zS_cl (by omega), zS_zup_ne g (show (64 : Nat) ≠ 74 by omega), zS_zup_ne g (show (66 : Nat) ≠ 74 by omega), v1, v3, zS_cne (by omega) (by omega), zS_add, zS_add, zS_add]
            have tail : ∀ d, zM_107 [.inr 62, .inl (nI (i + 1)), .inl (nI (zpc m p i + d))] (zup g 74 i (nI v)) = some (none, h1) → ∀ y : Option zV, ∃ g', (zM_107 [.inr 62, .inl (nI (i + 1)), .inl (nI (zpc m p i + d))] (zup g 74 i (nI v))).bind (fun r => zr_108 140 [some (.inr 62), some (.inl (nI i)), some (.inl (nI (zpc m p i))), some (.inl (nI (zcof m op nb i p))), some (.inl (nI v)), y] (zpush r.1 []) r.2) = some (none, g') ∧ zBs g' m ((zsv (fun v => if (zcof m op nb i p).testBit v = true then zgs m op nb 2 (i + 1) (zu p i v) else []) (v + 1) n).foldl (zbst m) ((zgs m op nb 2 (i + 1) (zu p i v)).foldl (zbst m) b)) ∧ zKl i g g' := by
              intro d hd y
              obtain ⟨g', s1, s2, s3⟩ := ih2 (v + 1) h1 _ y (by omega) (zRP_kl hR K1) (zTf_kl hT K1) r2
              refine ⟨g', ?_, s2, zKl_tr K1 s3⟩
              rw [hd]
              simp only [Option.bind_some, zpush]
              rw [zb_108_140, zS_add]
              exact s1
            by_cases hvc : v = zof m i 1
            · rw [if_neg (fun e => e.2 hvc)] at r1
              rw [decide_eq_true hvc, if_neg (by decide)]
              exact tail 0 r1 _
            · rw [if_pos ⟨ht, hvc⟩] at r1
              rw [decide_eq_false hvc, if_pos (by decide)]
              exact tail (zof m i 3) r1 _
      exact loop 4 0 h b none (by omega) hR hT hb
theorem zfl_109 {m op nb : Nat → Nat} (hI : zI m) (hN : zNC m op nb) (ih : zFL m op nb 3 zM_108) : zFL m op nb (3 + 1) zM_109 := by
  intro i p h b hik hR hT hb
  have hB := hI.1
  have hi : i < 8 := by omega
  have c1 := zpc_le hB p (i := i) (by omega)
  by_cases hpr : ∃ q, b = some q ∧ zcost m q ≤ zpc m p i
  · obtain ⟨q, rfl, hq⟩ := hpr
    have c2 := zcost_le hB q
    have e6 : h 62 6 = nI 1 := hb.1
    rw [zprune hB (by omega) hq]
    refine ⟨h, ?_, hb, zKl_rf _ _⟩
    rw [ze_109, e6, if_neg (by decide), (hb.2 q rfl).1, zS_clt (by omega) (by omega), decide_eq_false (by omega), if_neg (by decide)]
  · have go : zM_109 [.inr 62, .inl (nI i), .inl (nI (zpc m p i))] h = (zM_70 [.inr 63, .inl (nI i)] h).bind (fun r => zr_109 56 [some (.inr 62), some (.inl (nI i)), some (.inl (nI (zpc m p i))), none, none, none] (zpush r.1 []) r.2) := by
      rw [ze_109, zS_clt (show i < 2147483648 by omega) (by omega), decide_eq_true hi, if_pos rfl]
      cases b with
      | none =>
        have e6 : h 62 6 = nI 0 := hb.1
        rw [e6, if_pos (by decide)]
      | some q =>
        have e6 : h 62 6 = nI 1 := hb.1
        have c2 := zcost_le hB q
        have : zpc m p i < zcost m q := by
          rcases Nat.lt_or_ge (zpc m p i) (zcost m q) with a | a
          · exact a
          · exact absurd ⟨q, rfl, a⟩ hpr
        rw [e6, if_neg (by decide), (hb.2 q rfl).1, zS_clt (by omega) (by omega), decide_eq_true this, if_pos rfl]
    have ex : zth m (nI i) = zt m i := zth_nI (by omega)
    rw [go, zn_there3 hR.1 hB, ex, zgs_s]
    simp only [Option.bind_some, zpush]
    rw [zb_109_56, zS_b0n]
    cases ht : zt m i with
    | false =>
      have ep : zpc m (zu p i 0) (i + 1) = zpc m p i := by
        rw [zpc_s, ht, if_neg (by simp), Nat.add_zero]
        exact zpc_congr (fun c hc => zu_ne _ (by omega) _)
      obtain ⟨h', r1, r2, r3⟩ := ih (i + 1) (zu p i 0) h b (by omega) hR (zTf_n hT ht 0) hb
      rw [ep] at r1
      rw [if_neg (by decide), if_neg (by decide), zS_add, r1]
      simp only [Option.bind_some, zpush]
      rw [zb_109_67]
      exact ⟨h', rfl, r2, zKl_up r3⟩
    | true =>
      have hX := zcof_lt hN hi ht p
      rw [if_pos rfl, if_pos rfl, zn_cof hR hN hi ht (fun o ho hbit => hT o ho ((hN i hi ht).2.2 o (by omega) hbit).1)]
      simp only [Option.bind_some, zpush]
      rw [zb_109_73]
      have loop : ∀ (n v : Nat) (g : zHp) (b : Option (Nat → Nat)) (d5 : Option zV), v + n = 4 → zRP g m op nb → zTf g m i p → zBs g m b → ∃ g', zr_109 77 [some (.inr 62), some (.inl (nI i)), some (.inl (nI (zpc m p i))), some (.inl (nI (zcof m op nb i p))), some (.inl (nI v)), d5] [] g = some (none, g') ∧ zBs g' m ((zsv (fun v => if (zcof m op nb i p).testBit v = true then zgs m op nb 3 (i + 1) (zu p i v) else []) v n).foldl (zbst m) b) ∧ zKl i g g' := by
        intro n
        induction n with
        | zero =>
          intro v g b d5 hv hR hT hb
          refine ⟨g, ?_, hb, zKl_rf _ _⟩
          rw [zb_109_77, zS_cge (by omega) (by omega), decide_eq_true (by omega), if_pos rfl]
        | succ n ih2 =>
          intro v g b d5 hv hR hT hb
          have hv4 : v < 4 := by omega
          have ezs : zsv (fun v => if (zcof m op nb i p).testBit v = true then zgs m op nb 3 (i + 1) (zu p i v) else []) v (n + 1) = (if (zcof m op nb i p).testBit v = true then zgs m op nb 3 (i + 1) (zu p i v) else []) ++ zsv (fun v => if (zcof m op nb i p).testBit v = true then zgs m op nb 3 (i + 1) (zu p i v) else []) (v + 1) n := rfl
          rw [ezs, List.foldl_append, zb_109_77, zS_cge (by omega) (by omega), decide_eq_false (by omega), if_neg (by decide), zn_has g (by omega) (by omega)]
          simp only [Option.bind_some, zpush]
          rw [zb_109_89, zS_b0]
          cases hbit : (zcof m op nb i p).testBit v with
          | false =>
            rw [if_pos (by decide), zb_109_140, zS_add, if_neg (by decide)]
            exact ih2 (v + 1) g b d5 (by omega) hR hT hb
          | true =>
            have v1 : g 64 i = nI (zof m i 1) := (hR.1.2.1 i hi ht).1
            have v3 : g 66 i = nI (zof m i 3) := (hR.1.2.1 i hi ht).2.2
            have b1 := zB_1 hB hi
            have b3 := zB_3 hB hi
            have ecut : zpc m (zu p i v) i = zpc m p i := zpc_congr (fun c hc => zu_ne _ (by omega) _)
            have ep := zpc_s m (zu p i v) i
            rw [zu_same, ecut] at ep
            obtain ⟨h1, r1, r2, r3⟩ := ih (i + 1) (zu p i v) (zup g 74 i (nI v)) b (by omega) (zRP_74 hR _) (zTf_s hT hv4) (zBs_74 hb _)
            rw [ep] at r1
            have K1 : zKl i g h1 := zKl_74 r3
            rw [if_neg (by decide), if_pos rfl, zS_ib _ (by omega), decide_eq_true hi, if_pos rfl, if_pos rfl, if_pos rfl, zS_cl (by omega), zS_zup_ne g (show (64 : Nat) ≠ 74 by omega), zS_zup_ne g (show (66 : Nat) ≠ 74 by omega), v1, v3, zS_cne (by omega) (by omega), zS_add, zS_add, zS_add]
            have tail : ∀ d, zM_108 [.inr 62, .inl (nI (i + 1)), .inl (nI (zpc m p i + d))] (zup g 74 i (nI v)) = some (none, h1) → ∀ y : Option zV, ∃ g', (zM_108 [.inr 62, .inl (nI (i + 1)), .inl (nI (zpc m p i + d))] (zup g 74 i (nI v))).bind (fun r => zr_109 140 [some (.inr 62), some (.inl (nI i)), some (.inl (nI (zpc m p i))), some (.inl (nI (zcof m op nb i p))), some (.inl (nI v)), y] (zpush r.1 []) r.2) = some (none, g') ∧ zBs g' m ((zsv (fun v => if (zcof m op nb i p).testBit v = true then zgs m op nb 3 (i + 1) (zu p i v) else []) (v + 1) n).foldl (zbst m) ((zgs m op nb 3 (i + 1) (zu p i v)).foldl (zbst m) b)) ∧ zKl i g g' := by
              intro d hd y
              obtain ⟨g', s1, s2, s3⟩ := ih2 (v + 1) h1 _ y (by omega) (zRP_kl hR K1) (zTf_kl hT K1) r2
              refine ⟨g', ?_, s2, zKl_tr K1 s3⟩
              rw [hd]
              simp only [Option.bind_some, zpush]
              rw [zb_109_140, zS_add]
              exact s1
            by_cases hvc : v = zof m i 1
            · rw [if_neg (fun e => e.2 hvc)] at r1
              rw [decide_eq_true hvc, if_neg (by decide)]
              exact tail 0 r1 _
            · rw [if_pos ⟨ht, hvc⟩] at r1
              rw [decide_eq_false hvc, if_pos (by decide)]
              exact tail (zof m i 3) r1 _
      exact loop 4 0 h b none (by omega) hR hT hb
theorem zfl_110 {m op nb : Nat → Nat} (hI : zI m) (hN : zNC m op nb) (ih : zFL m op nb 4 zM_109) : zFL m op nb (4 + 1) zM_110 := by
  intro i p h b hik hR hT hb
  have hB := hI.1
  have hi : i < 8 := by omega
  have c1 := zpc_le hB p (i := i) (by omega)
  by_cases hpr : ∃ q, b = some q ∧ zcost m q ≤ zpc m p i
  · obtain ⟨q, rfl, hq⟩ := hpr
    have c2 := zcost_le hB q
    have e6 : h 62 6 = nI 1 := hb.1
    rw [zprune hB (by omega) hq]
    refine ⟨h, ?_, hb, zKl_rf _ _⟩
    rw [ze_110, e6, if_neg (by decide), (hb.2 q rfl).1, zS_clt (by omega) (by omega), decide_eq_false (by omega), if_neg (by decide)]
  · have go : zM_110 [.inr 62, .inl (nI i), .inl (nI (zpc m p i))] h = (zM_70 [.inr 63, .inl (nI i)] h).bind (fun r => zr_110 56 [some (.inr 62), some (.inl (nI i)), some (.inl (nI (zpc m p i))), none, none, none] (zpush r.1 []) r.2) := by
      rw [ze_110, zS_clt (show i < 2147483648 by omega) (by omega), decide_eq_true hi, if_pos rfl]
      cases b with
      | none =>
        have e6 : h 62 6 = nI 0 := hb.1
        rw [e6, if_pos (by decide)]
      | some q =>
        have e6 : h 62 6 = nI 1 := hb.1
        have c2 := zcost_le hB q
        have : zpc m p i < zcost m q := by
          rcases Nat.lt_or_ge (zpc m p i) (zcost m q) with a | a
          · exact a
          · exact absurd ⟨q, rfl, a⟩ hpr
        rw [e6, if_neg (by decide), (hb.2 q rfl).1, zS_clt (by omega) (by omega), decide_eq_true this, if_pos rfl]
    have ex : zth m (nI i) = zt m i := zth_nI (by omega)
    rw [go, zn_there3 hR.1 hB, ex, zgs_s]
    simp only [Option.bind_some, zpush]
    rw [zb_110_56, zS_b0n]
    cases ht : zt m i with
    | false =>
      have ep : zpc m (zu p i 0) (i + 1) = zpc m p i := by
        rw [zpc_s, ht, if_neg (by simp), Nat.add_zero]
        exact zpc_congr (fun c hc => zu_ne _ (by omega) _)
      obtain ⟨h', r1, r2, r3⟩ := ih (i + 1) (zu p i 0) h b (by omega) hR (zTf_n hT ht 0) hb
      rw [ep] at r1
      rw [if_neg (by decide), if_neg (by decide), zS_add, r1]
      simp only [Option.bind_some, zpush]
      rw [zb_110_67]
      exact ⟨h', rfl, r2, zKl_up r3⟩
    | true =>
      have hX := zcof_lt hN hi ht p
      rw [if_pos rfl, if_pos rfl, zn_cof hR hN hi ht (fun o ho hbit => hT o ho ((hN i hi ht).2.2 o (by omega) hbit).1)]
      simp only [Option.bind_some, zpush]
      rw [zb_110_73]
      have loop : ∀ (n v : Nat) (g : zHp) (b : Option (Nat → Nat)) (d5 : Option zV), v + n = 4 → zRP g m op nb → zTf g m i p → zBs g m b → ∃ g', zr_110 77 [some (.inr 62), some (.inl (nI i)), some (.inl (nI (zpc m p i))), some (.inl (nI (zcof m op nb i p))), some (.inl (nI v)), d5] [] g = some (none, g') ∧ zBs g' m ((zsv (fun v => if (zcof m op nb i p).testBit v = true then zgs m op nb 4 (i + 1) (zu p i v) else []) v n).foldl (zbst m) b) ∧ zKl i g g' := by
        intro n
        induction n with
        | zero =>
          intro v g b d5 hv hR hT hb
          refine ⟨g, ?_, hb, zKl_rf _ _⟩
          rw [zb_110_77, zS_cge (by omega) (by omega), decide_eq_true (by omega), if_pos rfl]
        | succ n ih2 =>
          intro v g b d5 hv hR hT hb
          have hv4 : v < 4 := by omega
          have ezs : zsv (fun v => if (zcof m op nb i p).testBit v = true then zgs m op nb 4 (i + 1) (zu p i v) else []) v (n + 1) = (if (zcof m op nb i p).testBit v = true then zgs m op nb 4 (i + 1) (zu p i v) else []) ++ zsv (fun v => if (zcof m op nb i p).testBit v = true then zgs m op nb 4 (i + 1) (zu p i v) else []) (v + 1) n := rfl
          rw [ezs, List.foldl_append, zb_110_77, zS_cge (by omega) (by omega), decide_eq_false (by omega), if_neg (by decide), zn_has g (by omega) (by omega)]
          simp only [Option.bind_some, zpush]
          rw [zb_110_89, zS_b0]
          cases hbit : (zcof m op nb i p).testBit v with
          | false =>
            rw [if_pos (by decide), zb_110_140, zS_add, if_neg (by decide)]
            exact ih2 (v + 1) g b d5 (by omega) hR hT hb
          | true =>
            have v1 : g 64 i = nI (zof m i 1) := (hR.1.2.1 i hi ht).1
            have v3 : g 66 i = nI (zof m i 3) := (hR.1.2.1 i hi ht).2.2
            have b1 := zB_1 hB hi
            have b3 := zB_3 hB hi
            have ecut : zpc m (zu p i v) i = zpc m p i := zpc_congr (fun c hc => zu_ne _ (by omega) _)
            have ep := zpc_s m (zu p i v) i
            rw [zu_same, ecut] at ep
            obtain ⟨h1, r1, r2, r3⟩ := ih (i + 1) (zu p i v) (zup g 74 i (nI v)) b (by omega) (zRP_74 hR _) (zTf_s hT hv4) (zBs_74 hb _)
            rw [ep] at r1
            have K1 : zKl i g h1 := zKl_74 r3
            rw [if_neg (by decide), if_pos rfl, zS_ib _ (by omega), decide_eq_true hi, if_pos rfl, if_pos rfl, if_pos rfl, zS_cl (by omega), zS_zup_ne g (show (64 : Nat) ≠ 74 by omega), zS_zup_ne g (show (66 : Nat) ≠ 74 by omega), v1, v3, zS_cne (by omega) (by omega), zS_add, zS_add, zS_add]
            have tail : ∀ d, zM_109 [.inr 62, .inl (nI (i + 1)), .inl (nI (zpc m p i + d))] (zup g 74 i (nI v)) = some (none, h1) → ∀ y : Option zV, ∃ g', (zM_109 [.inr 62, .inl (nI (i + 1)), .inl (nI (zpc m p i + d))] (zup g 74 i (nI v))).bind (fun r => zr_110 140 [some (.inr 62), some (.inl (nI i)), some (.inl (nI (zpc m p i))), some (.inl (nI (zcof m op nb i p))), some (.inl (nI v)), y] (zpush r.1 []) r.2) = some (none, g') ∧ zBs g' m ((zsv (fun v => if (zcof m op nb i p).testBit v = true then zgs m op nb 4 (i + 1) (zu p i v) else []) (v + 1) n).foldl (zbst m) ((zgs m op nb 4 (i + 1) (zu p i v)).foldl (zbst m) b)) ∧ zKl i g g' := by
              intro d hd y
              obtain ⟨g', s1, s2, s3⟩ := ih2 (v + 1) h1 _ y (by omega) (zRP_kl hR K1) (zTf_kl hT K1) r2
              refine ⟨g', ?_, s2, zKl_tr K1 s3⟩
              rw [hd]
              simp only [Option.bind_some, zpush]
              rw [zb_110_140, zS_add]
              exact s1
            by_cases hvc : v = zof m i 1
            · rw [if_neg (fun e => e.2 hvc)] at r1
              rw [decide_eq_true hvc, if_neg (by decide)]
              exact tail 0 r1 _
            · rw [if_pos ⟨ht, hvc⟩] at r1
              rw [decide_eq_false hvc, if_pos (by decide)]
              exact tail (zof m i 3) r1 _
      exact loop 4 0 h b none (by omega) hR hT hb
theorem zfl_111 {m op nb : Nat → Nat} (hI : zI m) (hN : zNC m op nb) (ih : zFL m op nb 5 zM_110) : zFL m op nb (5 + 1) zM_111 := by
  intro i p h b hik hR hT hb
  have hB := hI.1
  have hi : i < 8 := by omega
  have c1 := zpc_le hB p (i := i) (by omega)
  by_cases hpr : ∃ q, b = some q ∧ zcost m q ≤ zpc m p i
  · obtain ⟨q, rfl, hq⟩ := hpr
    have c2 := zcost_le hB q
    have e6 : h 62 6 = nI 1 := hb.1
    rw [zprune hB (by omega) hq]
    refine ⟨h, ?_, hb, zKl_rf _ _⟩
    rw [ze_111, e6, if_neg (by decide), (hb.2 q rfl).1, zS_clt (by omega) (by omega), decide_eq_false (by omega), if_neg (by decide)]
  · have go : zM_111 [.inr 62, .inl (nI i), .inl (nI (zpc m p i))] h = (zM_70 [.inr 63, .inl (nI i)] h).bind (fun r => zr_111 56 [some (.inr 62), some (.inl (nI i)), some (.inl (nI (zpc m p i))), none, none, none] (zpush r.1 []) r.2) := by
      rw [ze_111, zS_clt (show i < 2147483648 by omega) (by omega), decide_eq_true hi, if_pos rfl]
      cases b with
      | none =>
        have e6 : h 62 6 = nI 0 := hb.1
        rw [e6, if_pos (by decide)]
      | some q =>
        have e6 : h 62 6 = nI 1 := hb.1
        have c2 := zcost_le hB q
        have : zpc m p i < zcost m q := by
          rcases Nat.lt_or_ge (zpc m p i) (zcost m q) with a | a
          · exact a
          · exact absurd ⟨q, rfl, a⟩ hpr
        rw [e6, if_neg (by decide), (hb.2 q rfl).1, zS_clt (by omega) (by omega), decide_eq_true this, if_pos rfl]
    have ex : zth m (nI i) = zt m i := zth_nI (by omega)
    rw [go, zn_there3 hR.1 hB, ex, zgs_s]
    simp only [Option.bind_some, zpush]
    rw [zb_111_56, zS_b0n]
    cases ht : zt m i with
    | false =>
      have ep : zpc m (zu p i 0) (i + 1) = zpc m p i := by
        rw [zpc_s, ht, if_neg (by simp), Nat.add_zero]
        exact zpc_congr (fun c hc => zu_ne _ (by omega) _)
      obtain ⟨h', r1, r2, r3⟩ := ih (i + 1) (zu p i 0) h b (by omega) hR (zTf_n hT ht 0) hb
      rw [ep] at r1
      rw [if_neg (by decide), if_neg (by decide), zS_add, r1]
      simp only [Option.bind_some, zpush]
      rw [zb_111_67]
      exact ⟨h', rfl, r2, zKl_up r3⟩
    | true =>
      have hX := zcof_lt hN hi ht p
      rw [if_pos rfl, if_pos rfl, zn_cof hR hN hi ht (fun o ho hbit => hT o ho ((hN i hi ht).2.2 o (by omega) hbit).1)]
      simp only [Option.bind_some, zpush]
      rw [zb_111_73]
      have loop : ∀ (n v : Nat) (g : zHp) (b : Option (Nat → Nat)) (d5 : Option zV), v + n = 4 → zRP g m op nb → zTf g m i p → zBs g m b → ∃ g', zr_111 77 [some (.inr 62), some (.inl (nI i)), some (.inl (nI (zpc m p i))), some (.inl (nI (zcof m op nb i p))), some (.inl (nI v)), d5] [] g = some (none, g') ∧ zBs g' m ((zsv (fun v => if (zcof m op nb i p).testBit v = true then zgs m op nb 5 (i + 1) (zu p i v) else []) v n).foldl (zbst m) b) ∧ zKl i g g' := by
        intro n
        induction n with
        | zero =>
          intro v g b d5 hv hR hT hb
          refine ⟨g, ?_, hb, zKl_rf _ _⟩
          rw [zb_111_77, zS_cge (by omega) (by omega), decide_eq_true (by omega), if_pos rfl]
        | succ n ih2 =>
          intro v g b d5 hv hR hT hb
          have hv4 : v < 4 := by omega
          have ezs : zsv (fun v => if (zcof m op nb i p).testBit v = true then zgs m op nb 5 (i + 1) (zu p i v) else []) v (n + 1) = (if (zcof m op nb i p).testBit v = true then zgs m op nb 5 (i + 1) (zu p i v) else []) ++ zsv (fun v => if (zcof m op nb i p).testBit v = true then zgs m op nb 5 (i + 1) (zu p i v) else []) (v + 1) n := rfl
          rw [ezs, List.foldl_append, zb_111_77, zS_cge (by omega) (by omega), decide_eq_false (by omega), if_neg (by decide), zn_has g (by omega) (by omega)]
          simp only [Option.bind_some, zpush]
          rw [zb_111_89, zS_b0]
          cases hbit : (zcof m op nb i p).testBit v with
          | false =>
            rw [if_pos (by decide), zb_111_140, zS_add, if_neg (by decide)]
            exact ih2 (v + 1) g b d5 (by omega) hR hT hb
          | true =>
            have v1 : g 64 i = nI (zof m i 1) := (hR.1.2.1 i hi ht).1
            have v3 : g 66 i = nI (zof m i 3) := (hR.1.2.1 i hi ht).2.2
            have b1 := zB_1 hB hi
            have b3 := zB_3 hB hi
            have ecut : zpc m (zu p i v) i = zpc m p i := zpc_congr (fun c hc => zu_ne _ (by omega) _)
            have ep := zpc_s m (zu p i v) i
            rw [zu_same, ecut] at ep
            obtain ⟨h1, r1, r2, r3⟩ := ih (i + 1) (zu p i v) (zup g 74 i (nI v)) b (by omega) (zRP_74 hR _) (zTf_s hT hv4) (zBs_74 hb _)
            rw [ep] at r1
            have K1 : zKl i g h1 := zKl_74 r3
            rw [if_neg (by decide), if_pos rfl, zS_ib _ (by omega), decide_eq_true hi, if_pos rfl, if_pos rfl, if_pos rfl, zS_cl (by omega), zS_zup_ne g (show (64 : Nat) ≠ 74 by omega), zS_zup_ne g (show (66 : Nat) ≠ 74 by omega), v1, v3, zS_cne (by omega) (by omega), zS_add, zS_add, zS_add]
            have tail : ∀ d, zM_110 [.inr 62, .inl (nI (i + 1)), .inl (nI (zpc m p i + d))] (zup g 74 i (nI v)) = some (none, h1) → ∀ y : Option zV, ∃ g', (zM_110 [.inr 62, .inl (nI (i + 1)), .inl (nI (zpc m p i + d))] (zup g 74 i (nI v))).bind (fun r => zr_111 140 [some (.inr 62), some (.inl (nI i)), some (.inl (nI (zpc m p i))), some (.inl (nI (zcof m op nb i p))), some (.inl (nI v)), y] (zpush r.1 []) r.2) = some (none, g') ∧ zBs g' m ((zsv (fun v => if (zcof m op nb i p).testBit v = true then zgs m op nb 5 (i + 1) (zu p i v) else []) (v + 1) n).foldl (zbst m) ((zgs m op nb 5 (i + 1) (zu p i v)).foldl (zbst m) b)) ∧ zKl i g g' := by
              intro d hd y
              obtain ⟨g', s1, s2, s3⟩ := ih2 (v + 1) h1 _ y (by omega) (zRP_kl hR K1) (zTf_kl hT K1) r2
              refine ⟨g', ?_, s2, zKl_tr K1 s3⟩
              rw [hd]
              simp only [Option.bind_some, zpush]
              rw [zb_111_140, zS_add]
              exact s1
            by_cases hvc : v = zof m i 1
            · rw [if_neg (fun e => e.2 hvc)] at r1
              rw [decide_eq_true hvc, if_neg (by decide)]
              exact tail 0 r1 _
            · rw [if_pos ⟨ht, hvc⟩] at r1
              rw [decide_eq_false hvc, if_pos (by decide)]
              exact tail (zof m i 3) r1 _
      exact loop 4 0 h b none (by omega) hR hT hb
theorem zfl_112 {m op nb : Nat → Nat} (hI : zI m) (hN : zNC m op nb) (ih : zFL m op nb 6 zM_111) : zFL m op nb (6 + 1) zM_112 := by
  intro i p h b hik hR hT hb
  have hB := hI.1
  have hi : i < 8 := by omega
  have c1 := zpc_le hB p (i := i) (by omega)
  by_cases hpr : ∃ q, b = some q ∧ zcost m q ≤ zpc m p i
  · obtain ⟨q, rfl, hq⟩ := hpr
    have c2 := zcost_le hB q
    have e6 : h 62 6 = nI 1 := hb.1
    rw [zprune hB (by omega) hq]
    refine ⟨h, ?_, hb, zKl_rf _ _⟩
    rw [ze_112, e6, if_neg (by decide), (hb.2 q rfl).1, zS_clt (by omega) (by omega), decide_eq_false (by omega), if_neg (by decide)]
  · have go : zM_112 [.inr 62, .inl (nI i), .inl (nI (zpc m p i))] h = (zM_70 [.inr 63, .inl (nI i)] h).bind (fun r => zr_112 56 [some (.inr 62), some (.inl (nI i)), some (.inl (nI (zpc m p i))), none, none, none] (zpush r.1 []) r.2) := by
      rw [ze_112, zS_clt (show i < 2147483648 by omega) (by omega), decide_eq_true hi, if_pos rfl]
      cases b with
      | none =>
        have e6 : h 62 6 = nI 0 := hb.1
        rw [e6, if_pos (by decide)]
      | some q =>
        have e6 : h 62 6 = nI 1 := hb.1
        have c2 := zcost_le hB q
        have : zpc m p i < zcost m q := by
          rcases Nat.lt_or_ge (zpc m p i) (zcost m q) with a | a
          · exact a
          · exact absurd ⟨q, rfl, a⟩ hpr
        rw [e6, if_neg (by decide), (hb.2 q rfl).1, zS_clt (by omega) (by omega), decide_eq_true this, if_pos rfl]
    have ex : zth m (nI i) = zt m i := zth_nI (by omega)
    rw [go, zn_there3 hR.1 hB, ex, zgs_s]
    simp only [Option.bind_some, zpush]
    rw [zb_112_56, zS_b0n]
    cases ht : zt m i with
    | false =>
      have ep : zpc m (zu p i 0) (i + 1) = zpc m p i := by
        rw [zpc_s, ht, if_neg (by simp), Nat.add_zero]
        exact zpc_congr (fun c hc => zu_ne _ (by omega) _)
      obtain ⟨h', r1, r2, r3⟩ := ih (i + 1) (zu p i 0) h b (by omega) hR (zTf_n hT ht 0) hb
      rw [ep] at r1
      rw [if_neg (by decide), if_neg (by decide), zS_add, r1]
      simp only [Option.bind_some, zpush]
      rw [zb_112_67]
      exact ⟨h', rfl, r2, zKl_up r3⟩
    | true =>
      have hX := zcof_lt hN hi ht p
      rw [if_pos rfl, if_pos rfl, zn_cof hR hN hi ht (fun o ho hbit => hT o ho ((hN i hi ht).2.2 o (by omega) hbit).1)]
      simp only [Option.bind_some, zpush]
      rw [zb_112_73]
      have loop : ∀ (n v : Nat) (g : zHp) (b : Option (Nat → Nat)) (d5 : Option zV), v + n = 4 → zRP g m op nb → zTf g m i p → zBs g m b → ∃ g', zr_112 77 [some (.inr 62), some (.inl (nI i)), some (.inl (nI (zpc m p i))), some (.inl (nI (zcof m op nb i p))), some (.inl (nI v)), d5] [] g = some (none, g') ∧ zBs g' m ((zsv (fun v => if (zcof m op nb i p).testBit v = true then zgs m op nb 6 (i + 1) (zu p i v) else []) v n).foldl (zbst m) b) ∧ zKl i g g' := by
        intro n
        induction n with
        | zero =>
          intro v g b d5 hv hR hT hb
          refine ⟨g, ?_, hb, zKl_rf _ _⟩
          rw [zb_112_77, zS_cge (by omega) (by omega), decide_eq_true (by omega), if_pos rfl]
        | succ n ih2 =>
          intro v g b d5 hv hR hT hb
          have hv4 : v < 4 := by omega
          have ezs : zsv (fun v => if (zcof m op nb i p).testBit v = true then zgs m op nb 6 (i + 1) (zu p i v) else []) v (n + 1) = (if (zcof m op nb i p).testBit v = true then zgs m op nb 6 (i + 1) (zu p i v) else []) ++ zsv (fun v => if (zcof m op nb i p).testBit v = true then zgs m op nb 6 (i + 1) (zu p i v) else []) (v + 1) n := rfl
          rw [ezs, List.foldl_append, zb_112_77, zS_cge (by omega) (by omega), decide_eq_false (by omega), if_neg (by decide), zn_has g (by omega) (by omega)]
          simp only [Option.bind_some, zpush]
          rw [zb_112_89, zS_b0]
          cases hbit : (zcof m op nb i p).testBit v with
          | false =>
            rw [if_pos (by decide), zb_112_140, zS_add, if_neg (by decide)]
            exact ih2 (v + 1) g b d5 (by omega) hR hT hb
          | true =>
            have v1 : g 64 i = nI (zof m i 1) := (hR.1.2.1 i hi ht).1
            have v3 : g 66 i = nI (zof m i 3) := (hR.1.2.1 i hi ht).2.2
            have b1 := zB_1 hB hi
            have b3 := zB_3 hB hi
            have ecut : zpc m (zu p i v) i = zpc m p i := zpc_congr (fun c hc => zu_ne _ (by omega) _)
            have ep := zpc_s m (zu p i v) i
            rw [zu_same, ecut] at ep
            obtain ⟨h1, r1, r2, r3⟩ := ih (i + 1) (zu p i v) (zup g 74 i (nI v)) b (by omega) (zRP_74 hR _) (zTf_s hT hv4) (zBs_74 hb _)
            rw [ep] at r1
            have K1 : zKl i g h1 := zKl_74 r3
            rw [if_neg (by decide), if_pos rfl, zS_ib _ (by omega), decide_eq_true hi, if_pos rfl, if_pos rfl, if_pos rfl, zS_cl (by omega), zS_zup_ne g (show (64 : Nat) ≠ 74 by omega), zS_zup_ne g (show (66 : Nat) ≠ 74 by omega), v1, v3, zS_cne (by omega) (by omega), zS_add, zS_add, zS_add]
            have tail : ∀ d, zM_111 [.inr 62, .inl (nI (i + 1)), .inl (nI (zpc m p i + d))] (zup g 74 i (nI v)) = some (none, h1) → ∀ y : Option zV, ∃ g', (zM_111 [.inr 62, .inl (nI (i + 1)), .inl (nI (zpc m p i + d))] (zup g 74 i (nI v))).bind (fun r => zr_112 140 [some (.inr 62), some (.inl (nI i)), some (.inl (nI (zpc m p i))), some (.inl (nI (zcof m op nb i p))), some (.inl (nI v)), y] (zpush r.1 []) r.2) = some (none, g') ∧ zBs g' m ((zsv (fun v => if (zcof m op nb i p).testBit v = true then zgs m op nb 6 (i + 1) (zu p i v) else []) (v + 1) n).foldl (zbst m) ((zgs m op nb 6 (i + 1) (zu p i v)).foldl (zbst m) b)) ∧ zKl i g g' := by
              intro d hd y
              obtain ⟨g', s1, s2, s3⟩ := ih2 (v + 1) h1 _ y (by omega) (zRP_kl hR K1) (zTf_kl hT K1) r2
              refine ⟨g', ?_, s2, zKl_tr K1 s3⟩
              rw [hd]
              simp only [Option.bind_some, zpush]
              rw [zb_112_140, zS_add]
              exact s1
            by_cases hvc : v = zof m i 1
            · rw [if_neg (fun e => e.2 hvc)] at r1
              rw [decide_eq_true hvc, if_neg (by decide)]
              exact tail 0 r1 _
            · rw [if_pos ⟨ht, hvc⟩] at r1
              rw [decide_eq_false hvc, if_pos (by decide)]
              exact tail (zof m i 3) r1 _
      exact loop 4 0 h b none (by omega) hR hT hb
theorem zfl_113 {m op nb : Nat → Nat} (hI : zI m) (hN : zNC m op nb) (ih : zFL m op nb 7 zM_112) : zFL m op nb (7 + 1) zM_113 := by
  intro i p h b hik hR hT hb
  have hB := hI.1
  have hi : i < 8 := by omega
  have c1 := zpc_le hB p (i := i) (by omega)
  by_cases hpr : ∃ q, b = some q ∧ zcost m q ≤ zpc m p i
  · obtain ⟨q, rfl, hq⟩ := hpr
    have c2 := zcost_le hB q
    have e6 : h 62 6 = nI 1 := hb.1
    rw [zprune hB (by omega) hq]
    refine ⟨h, ?_, hb, zKl_rf _ _⟩
    rw [ze_113, e6, if_neg (by decide), (hb.2 q rfl).1, zS_clt (by omega) (by omega), decide_eq_false (by omega), if_neg (by decide)]
  · have go : zM_113 [.inr 62, .inl (nI i), .inl (nI (zpc m p i))] h = (zM_70 [.inr 63, .inl (nI i)] h).bind (fun r => zr_113 56 [some (.inr 62), some (.inl (nI i)), some (.inl (nI (zpc m p i))), none, none, none] (zpush r.1 []) r.2) := by
      rw [ze_113, zS_clt (show i < 2147483648 by omega) (by omega), decide_eq_true hi, if_pos rfl]
      cases b with
      | none =>
        have e6 : h 62 6 = nI 0 := hb.1
        rw [e6, if_pos (by decide)]
      | some q =>
        have e6 : h 62 6 = nI 1 := hb.1
        have c2 := zcost_le hB q
        have : zpc m p i < zcost m q := by
          rcases Nat.lt_or_ge (zpc m p i) (zcost m q) with a | a
          · exact a
          · exact absurd ⟨q, rfl, a⟩ hpr
        rw [e6, if_neg (by decide), (hb.2 q rfl).1, zS_clt (by omega) (by omega), decide_eq_true this, if_pos rfl]
    have ex : zth m (nI i) = zt m i := zth_nI (by omega)
    rw [go, zn_there3 hR.1 hB, ex, zgs_s]
    simp only [Option.bind_some, zpush]
    rw [zb_113_56, zS_b0n]
    cases ht : zt m i with
    | false =>
      have ep : zpc m (zu p i 0) (i + 1) = zpc m p i := by
        rw [zpc_s, ht, if_neg (by simp), Nat.add_zero]
        exact zpc_congr (fun c hc => zu_ne _ (by omega) _)
      obtain ⟨h', r1, r2, r3⟩ := ih (i + 1) (zu p i 0) h b (by omega) hR (zTf_n hT ht 0) hb
      rw [ep] at r1
      rw [if_neg (by decide), if_neg (by decide), zS_add, r1]
      simp only [Option.bind_some, zpush]
      rw [zb_113_67]
      exact ⟨h', rfl, r2, zKl_up r3⟩
    | true =>
      have hX := zcof_lt hN hi ht p
      rw [if_pos rfl, if_pos rfl, zn_cof hR hN hi ht (fun o ho hbit => hT o ho ((hN i hi ht).2.2 o (by omega) hbit).1)]
      simp only [Option.bind_some, zpush]
      rw [zb_113_73]
      have loop : ∀ (n v : Nat) (g : zHp) (b : Option (Nat → Nat)) (d5 : Option zV), v + n = 4 → zRP g m op nb → zTf g m i p → zBs g m b → ∃ g', zr_113 77 [some (.inr 62), some (.inl (nI i)), some (.inl (nI (zpc m p i))), some (.inl (nI (zcof m op nb i p))), some (.inl (nI v)), d5] [] g = some (none, g') ∧ zBs g' m ((zsv (fun v => if (zcof m op nb i p).testBit v = true then zgs m op nb 7 (i + 1) (zu p i v) else []) v n).foldl (zbst m) b) ∧ zKl i g g' := by
        intro n
        induction n with
        | zero =>
          intro v g b d5 hv hR hT hb
          refine ⟨g, ?_, hb, zKl_rf _ _⟩
          rw [zb_113_77, zS_cge (by omega) (by omega), decide_eq_true (by omega), if_pos rfl]
        | succ n ih2 =>
          intro v g b d5 hv hR hT hb
          have hv4 : v < 4 := by omega
          have ezs : zsv (fun v => if (zcof m op nb i p).testBit v = true then zgs m op nb 7 (i + 1) (zu p i v) else []) v (n + 1) = (if (zcof m op nb i p).testBit v = true then zgs m op nb 7 (i + 1) (zu p i v) else []) ++ zsv (fun v => if (zcof m op nb i p).testBit v = true then zgs m op nb 7 (i + 1) (zu p i v) else []) (v + 1) n := rfl
          rw [ezs, List.foldl_append, zb_113_77, zS_cge (by omega) (by omega), decide_eq_false (by omega), if_neg (by decide), zn_has g (by omega) (by omega)]
          simp only [Option.bind_some, zpush]
          rw [zb_113_89, zS_b0]
          cases hbit : (zcof m op nb i p).testBit v with
          | false =>
            rw [if_pos (by decide), zb_113_140, zS_add, if_neg (by decide)]
            exact ih2 (v + 1) g b d5 (by omega) hR hT hb
          | true =>
            have v1 : g 64 i = nI (zof m i 1) := (hR.1.2.1 i hi ht).1
            have v3 : g 66 i = nI (zof m i 3) := (hR.1.2.1 i hi ht).2.2
            have b1 := zB_1 hB hi
            have b3 := zB_3 hB hi
            have ecut : zpc m (zu p i v) i = zpc m p i := zpc_congr (fun c hc => zu_ne _ (by omega) _)
            have ep := zpc_s m (zu p i v) i
            rw [zu_same, ecut] at ep
            obtain ⟨h1, r1, r2, r3⟩ := ih (i + 1) (zu p i v) (zup g 74 i (nI v)) b (by omega) (zRP_74 hR _) (zTf_s hT hv4) (zBs_74 hb _)
            rw [ep] at r1
            have K1 : zKl i g h1 := zKl_74 r3
            rw [if_neg (by decide), if_pos rfl, zS_ib _ (by omega), decide_eq_true hi, if_pos rfl, if_pos rfl, if_pos rfl, zS_cl (by omega), zS_zup_ne g (show (64 : Nat) ≠ 74 by omega), zS_zup_ne g (show (66 : Nat) ≠ 74 by omega), v1, v3, zS_cne (by omega) (by omega), zS_add, zS_add, zS_add]
            have tail : ∀ d, zM_112 [.inr 62, .inl (nI (i + 1)), .inl (nI (zpc m p i + d))] (zup g 74 i (nI v)) = some (none, h1) → ∀ y : Option zV, ∃ g', (zM_112 [.inr 62, .inl (nI (i + 1)), .inl (nI (zpc m p i + d))] (zup g 74 i (nI v))).bind (fun r => zr_113 140 [some (.inr 62), some (.inl (nI i)), some (.inl (nI (zpc m p i))), some (.inl (nI (zcof m op nb i p))), some (.inl (nI v)), y] (zpush r.1 []) r.2) = some (none, g') ∧ zBs g' m ((zsv (fun v => if (zcof m op nb i p).testBit v = true then zgs m op nb 7 (i + 1) (zu p i v) else []) (v + 1) n).foldl (zbst m) ((zgs m op nb 7 (i + 1) (zu p i v)).foldl (zbst m) b)) ∧ zKl i g g' := by
              intro d hd y
              obtain ⟨g', s1, s2, s3⟩ := ih2 (v + 1) h1 _ y (by omega) (zRP_kl hR K1) (zTf_kl hT K1) r2
              refine ⟨g', ?_, s2, zKl_tr K1 s3⟩
              rw [hd]
              simp only [Option.bind_some, zpush]
              rw [zb_113_140, zS_add]
              exact s1
            by_cases hvc : v = zof m i 1
            · rw [if_neg (fun e => e.2 hvc)] at r1
              rw [decide_eq_true hvc, if_neg (by decide)]
              exact tail 0 r1 _
            · rw [if_pos ⟨ht, hvc⟩] at r1
              rw [decide_eq_false hvc, if_pos (by decide)]
              exact tail (zof m i 3) r1 _
      exact loop 4 0 h b none (by omega) hR hT hb
theorem zfl_top {m op nb : Nat → Nat} (hI : zI m) (hN : zNC m op nb) : zFL m op nb 8 zM_113 := zfl_113 hI hN (zfl_112 hI hN (zfl_111 hI hN (zfl_110 hI hN (zfl_109 hI hN (zfl_108 hI hN (zfl_107 hI hN (zfl_106 hI hN (zfl_105 hI))))))))
