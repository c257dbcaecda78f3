/-! The class's copying of states. -/
theorem zcpn (h : zHp) {s d b : Nat} (hb : b ≠ d) (sp dp n j : Nat) : zcp h s d sp dp n b j = h b j := by
  unfold zcp
  rw [if_neg hb]
theorem zcpi (h : zHp) {s d n j : Nat} (hj : j < n) : zcp h s d 0 0 n d j = h s j := by
  unfold zcp
  rw [if_pos rfl]
  unfold va_cpy
  simp [hj]
/-- a borders' copy, a state's copy -/
def zc63 (h : zHp) (d s : Nat) : zHp := zcp (zcp (zcp (zup h d 0 (h s 0)) (s + 1) (d + 1) 0 0 28) (s + 2) (d + 2) 0 0 28) (s + 3) (d + 3) 0 0 28
def zc64a (h : zHp) (d s : Nat) : zHp := zcp (zcp (zcp (zcp (zup (zup (zup h d 0 (h s 0)) d 1 ((zup h d 0 (h s 0)) s 1)) d 2 ((zup (zup h d 0 (h s 0)) d 1 ((zup h d 0 (h s 0)) s 1)) s 2)) (s + 1) (d + 1) 0 0 8) (s + 2) (d + 2) 0 0 8) (s + 3) (d + 3) 0 0 8) (s + 4) (d + 4) 0 0 4
theorem zc63_ne (h : zHp) {d s b : Nat} (hb : b < d ∨ d + 4 ≤ b) (j : Nat) : zc63 h d s b j = h b j := by
  unfold zc63
  rw [zcpn _ (by omega), zcpn _ (by omega), zcpn _ (by omega), zS_zup_ne _ (by omega)]
theorem zc64a_ne (h : zHp) {d s b : Nat} (hb : b < d ∨ d + 5 ≤ b) (j : Nat) : zc64a h d s b j = h b j := by
  unfold zc64a
  rw [zcpn _ (by omega), zcpn _ (by omega), zcpn _ (by omega), zcpn _ (by omega), zS_zup_ne _ (by omega), zS_zup_ne _ (by omega), zS_zup_ne _ (by omega)]
theorem zc63_S (h : zHp) {d s : Nat} (hd : d + 4 ≤ s ∨ s + 4 ≤ d) : zc63 h d s d 0 = h s 0 ∧ ∀ k, k < 28 → zc63 h d s (d + 1) k = h (s + 1) k ∧ zc63 h d s (d + 2) k = h (s + 2) k ∧ zc63 h d s (d + 3) k = h (s + 3) k := by
  unfold zc63
  refine ⟨?_, fun k hk => ⟨?_, ?_, ?_⟩⟩
  · rw [zcpn _ (by omega), zcpn _ (by omega), zcpn _ (by omega), zS_zup_same]
  · rw [zcpn _ (by omega), zcpn _ (by omega), zcpi _ hk, zS_zup_ne _ (by omega)]
  · rw [zcpn _ (by omega), zcpi _ hk, zcpn _ (by omega), zS_zup_ne _ (by omega)]
  · rw [zcpi _ hk, zcpn _ (by omega), zcpn _ (by omega), zS_zup_ne _ (by omega)]
theorem zc64a_S (h : zHp) {d s : Nat} (hd : d + 5 ≤ s ∨ s + 5 ≤ d) : (zc64a h d s d 0 = h s 0 ∧ zc64a h d s d 1 = h s 1 ∧ zc64a h d s d 2 = h s 2) ∧ (∀ k, k < 8 → zc64a h d s (d + 1) k = h (s + 1) k ∧ zc64a h d s (d + 2) k = h (s + 2) k ∧ zc64a h d s (d + 3) k = h (s + 3) k) ∧ ∀ k, k < 4 → zc64a h d s (d + 4) k = h (s + 4) k := by
  have hs : ∀ (g : zHp) k j x, zup g d k x s j = g s j := fun g k j x => zS_zup_ne _ (by omega) _ _ _
  unfold zc64a
  refine ⟨⟨?_, ?_, ?_⟩, fun k hk => ⟨?_, ?_, ?_⟩, fun k hk => ?_⟩
  · rw [zcpn _ (by omega), zcpn _ (by omega), zcpn _ (by omega), zcpn _ (by omega), zS_zup_nk _ _ (by omega), zS_zup_nk _ _ (by omega), zS_zup_same]
  · rw [zcpn _ (by omega), zcpn _ (by omega), zcpn _ (by omega), zcpn _ (by omega), zS_zup_nk _ _ (by omega), zS_zup_same, hs]
  · rw [zcpn _ (by omega), zcpn _ (by omega), zcpn _ (by omega), zcpn _ (by omega), zS_zup_same, hs, hs]
  · rw [zcpn _ (by omega), zcpn _ (by omega), zcpn _ (by omega), zcpi _ hk, zS_zup_ne _ (by omega), zS_zup_ne _ (by omega), zS_zup_ne _ (by omega)]
  · rw [zcpn _ (by omega), zcpn _ (by omega), zcpi _ hk, zcpn _ (by omega), zS_zup_ne _ (by omega), zS_zup_ne _ (by omega), zS_zup_ne _ (by omega)]
  · rw [zcpn _ (by omega), zcpi _ hk, zcpn _ (by omega), zcpn _ (by omega), zS_zup_ne _ (by omega), zS_zup_ne _ (by omega), zS_zup_ne _ (by omega)]
  · rw [zcpi _ hk, zcpn _ (by omega), zcpn _ (by omega), zcpn _ (by omega), zS_zup_ne _ (by omega), zS_zup_ne _ (by omega), zS_zup_ne _ (by omega)]
/-- a state copied is the same state -/
theorem zc64_S {h : zHp} {d s : Nat} (hd : d + 9 ≤ s ∨ s + 9 ≤ d) {m : Nat → Nat} (hB : zB m) (hS : zSr h s m) : zSr (zc63 (zc64a h d s) (d + 5) (s + 5)) d m ∧ ∀ b j, (b < d ∨ d + 9 ≤ b) → zc63 (zc64a h d s) (d + 5) (s + 5) b j = h b j := by
  have hn := zB_nb hB
  obtain ⟨⟨s1, s2, s3⟩, s4, s5, s6, s7⟩ := hS
  obtain ⟨⟨a1, a2, a3⟩, a4, a5⟩ := zc64a_S h (d := d) (s := s) (by omega)
  obtain ⟨b1, b2⟩ := zc63_S (zc64a h d s) (d := d + 5) (s := s + 5) (by omega)
  have lo : ∀ b j, b < d + 5 → zc63 (zc64a h d s) (d + 5) (s + 5) b j = zc64a h d s b j := fun b j hb => zc63_ne _ (by omega) j
  have up : ∀ b j, b < d ∨ d + 5 ≤ b → zc64a h d s b j = h b j := fun b j hb => zc64a_ne _ hb j
  refine ⟨⟨⟨by rw [lo _ _ (by omega), a1, s1], by rw [lo _ _ (by omega), a2, s2], by rw [lo _ _ (by omega), a3, s3]⟩, fun c hc ht => ?_, fun a ha => by rw [lo _ _ (by omega), a5 a ha, s5 a ha], by rw [b1, up _ _ (by omega), s6], fun k hk => ?_⟩, fun b j hb => ?_⟩
  · obtain ⟨x1, x2, x3⟩ := a4 c hc
    obtain ⟨y1, y2, y3⟩ := s4 c hc ht
    exact ⟨by rw [lo _ _ (by omega), x1, y1], by rw [lo _ _ (by omega), x2, y2], by rw [lo _ _ (by omega), x3, y3]⟩
  · obtain ⟨x1, x2, x3⟩ := b2 k (by omega)
    obtain ⟨y1, y2, y3⟩ := s7 k hk
    exact ⟨by rw [x1, up _ _ (by omega)]; exact y1, by rw [x2, up _ _ (by omega)]; exact y2, by rw [x3, up _ _ (by omega)]; exact y3⟩
  · rw [zc63_ne _ (by omega), up _ _ (by omega)]
/-- the class's copyFrom -/
def zCF (d s : Nat) : Prop := ∀ h : zHp, zM_64 [.inr d, .inr s] h = some (none, zc63 (zc64a h d s) (d + 5) (s + 5))
theorem zcf_21_1 : zCF 21 1 := fun h => by
  rw [ze_64_t21_1, ze_63_t26_6]
  simp only [Option.bind_some, zpush]
  rw [zb_64_94]
  rfl
theorem zcf_30_1 : zCF 30 1 := fun h => by
  rw [ze_64_t30_1, ze_63_t35_6]
  simp only [Option.bind_some, zpush]
  rw [zb_64_94]
  rfl
theorem zcf_39_1 : zCF 39 1 := fun h => by
  rw [ze_64_t39_1, ze_63_t44_6]
  simp only [Option.bind_some, zpush]
  rw [zb_64_94]
  rfl
theorem zcf_48_1 : zCF 48 1 := fun h => by
  rw [ze_64_t48_1, ze_63_t53_6]
  simp only [Option.bind_some, zpush]
  rw [zb_64_94]
  rfl
theorem zcf_10_1 : zCF 10 1 := fun h => by
  rw [ze_64_t10_1, ze_63_t15_6]
  simp only [Option.bind_some, zpush]
  rw [zb_64_94]
  rfl
theorem zcf_63_1 : zCF 63 1 := fun h => by
  rw [ze_64_t63_1, ze_63_t68_6]
  simp only [Option.bind_some, zpush]
  rw [zb_64_94]
  rfl
theorem zcf_1_21 : zCF 1 21 := fun h => by
  rw [ze_64_t1_21, ze_63_t6_26]
  simp only [Option.bind_some, zpush]
  rw [zb_64_94]
  rfl
theorem zcf_1_30 : zCF 1 30 := fun h => by
  rw [ze_64_t1_30, ze_63_t6_35]
  simp only [Option.bind_some, zpush]
  rw [zb_64_94]
  rfl
theorem zcf_1_39 : zCF 1 39 := fun h => by
  rw [ze_64_t1_39, ze_63_t6_44]
  simp only [Option.bind_some, zpush]
  rw [zb_64_94]
  rfl
theorem zcf_1_48 : zCF 1 48 := fun h => by
  rw [ze_64_t1_48, ze_63_t6_53]
  simp only [Option.bind_some, zpush]
  rw [zb_64_94]
  rfl
theorem zcf_1_10 : zCF 1 10 := fun h => by
  rw [ze_64_t1_10, ze_63_t6_15]
  simp only [Option.bind_some, zpush]
  rw [zb_64_94]
  rfl
