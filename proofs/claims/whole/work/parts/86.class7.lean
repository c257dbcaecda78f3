/-! keep, restore, clearText of the class. -/
theorem zn_clear {h : zHp} {m : Nat → Nat} {hs : List (Nat → Nat)} {sn : Option (Nat → Nat)} {tx : List Nat} (hV : zCV h m hs sn tx) : ∃ h', zM_123 [.inr 0] h = some (some (nI tx.length), h') ∧ zCV h' m hs sn [] ∧ zhi h h' := by
  obtain ⟨s, H, ⟨a1, a2⟩, b1, b2, b3⟩ := hV
  have hz : ∀ b j, b ≠ 57 → zup h 57 0 (nI 0) b j = h b j := fun b j hb => zS_zup_ne _ hb _ _ _
  rw [ze_123, b1]
  exact ⟨_, rfl, ⟨zSr_fr s (fun b j x y => hz b j (by omega)), zCH_fr H (fun b j x y => hz b j (by omega)), ⟨by rw [hz _ _ (by omega), a1], fun x hx => zSr_fr (a2 x hx) (fun b j x y => hz b j (by omega))⟩, zS_zup_same _ _ _ _, by simp, fun i x hx => by simp at hx⟩, zhi_up (zhi_rf h) (by omega) _ _⟩
theorem zn_keep {h : zHp} {m : Nat → Nat} {hs : List (Nat → Nat)} {sn : Option (Nat → Nat)} {tx : List Nat} (hV : zCV h m hs sn tx) (hB : zB m) : ∃ h', zM_126 [.inr 0] h = some (some (nI (zbits (zst m 0))), h') ∧ zCV h' m hs (some m) tx ∧ zhi h h' := by
  obtain ⟨s, H, ⟨a1, a2⟩, b1, b2, b3⟩ := hV
  obtain ⟨k1, k2⟩ := zc64_S (d := 10) (s := 1) (by omega) hB s
  have start := ze_126 h
  rw [zcf_10_1 h] at start
  simp only [Option.bind_some, zpush] at start
  generalize zc63 (zc64a h 10 1) (10 + 5) (1 + 5) = h1 at start k1 k2
  have hz : ∀ b j, b ≠ 0 → zup h1 0 2 (nI 1) b j = h1 b j := fun b j hb => zS_zup_ne _ hb _ _ _
  have hy : ∀ b j, b ≠ 0 → (b < 10 ∨ 19 ≤ b) → zup h1 0 2 (nI 1) b j = h b j := fun b j hb hb2 => by rw [hz b j hb, k2 b j (by omega)]
  have hs1 : zSr (zup h1 0 2 (nI 1)) 1 m := zSr_fr s (fun b j x y => hy b j (by omega) (by omega))
  rw [zb_126_11, zS_bo1, if_pos rfl, hs1.1.2.1, zn_bits _ (zst_lt (zB_ev hB) 0)] at start
  simp only [Option.bind_some, zpush] at start
  rw [zb_126_26] at start
  refine ⟨_, start, ⟨hs1, zCH_fr H (fun b j x y => hy b j (by omega) (by omega)), ⟨by rw [zS_zup_same]; rfl, fun x hx => ?_⟩, by rw [hy _ _ (by omega) (by omega), b1], b2, fun i x hx => by rw [hy _ _ (by omega) (by omega), b3 i x hx]⟩, fun b hb j => hy b j (by omega) (by omega)⟩
  cases hx
  exact zSr_fr k1 (fun b j x y => hz b j (by omega))
theorem zn_rest0 {h : zHp} {m : Nat → Nat} {hs : List (Nat → Nat)} {tx : List Nat} (hV : zCV h m hs none tx) : zM_127 [.inr 0] h = some (some (-5), h) := by
  rw [ze_127, hV.2.2.1.1]
  rfl
theorem zn_rest {h : zHp} {m y : Nat → Nat} {hs : List (Nat → Nat)} {tx : List Nat} (hV : zCV h m hs (some y) tx) (hB : zB m) (hBy : zB y) : ∃ h', zM_127 [.inr 0] h = some (some (nI (zbits (zst y 0))), h') ∧ zCV h' y (zph hs m) (some y) tx ∧ zhi h h' := by
  obtain ⟨h1, p1, p2, p3, p4⟩ := zn_remV hV hB
  have s10 := p2.2.2.1.2 y rfl
  obtain ⟨k1, k2⟩ := zc64_S (d := 1) (s := 10) (by omega) hBy s10
  have start := ze_127 h
  have e4 : zci .ne (nI (Option.isSome (some y)).toNat) (nI 0) = true := by show zci .ne (nI 1) (nI 0) = true; decide
  rw [hV.2.2.1.1, e4, if_pos rfl, p1] at start
  simp only [Option.bind_some, zpush] at start
  rw [zb_127_21, zcf_1_10 h1] at start
  simp only [Option.bind_some, zpush] at start
  generalize zc63 (zc64a h1 1 10) (1 + 5) (10 + 5) = h2 at start k1 k2
  rw [zb_127_32, k1.1.2.1, zn_bits _ (zst_lt (zB_ev hBy) 0)] at start
  simp only [Option.bind_some, zpush] at start
  rw [zb_127_42] at start
  exact ⟨_, start, zCV_now p2 k1 (fun b j hb => k2 b j (by omega)), zhi_tr p3 (fun b hb j => k2 b j (by omega))⟩
