/-! The class's history. -/
def zsl (k : Nat) : Nat := 21 + 9 * k
def zCH (h : zHp) (hs : List (Nat → Nat)) : Prop := h 19 0 = nI hs.length ∧ hs.length ≤ 4 ∧ ∃ nx, nx < 4 ∧ h 19 1 = nI nx ∧ ∀ i (x : Nat → Nat), hs[i]? = some x → zSr h (zsl ((nx + 4 - hs.length + i) % 4)) x
/-- a state that is read in another heap -/
theorem zSr_fr {h h' : zHp} {p : Nat} {m : Nat → Nat} (hS : zSr h p m) (hf : ∀ b j, p ≤ b → b < p + 9 → h' b j = h b j) : zSr h' p m := by
  obtain ⟨⟨s1, s2, s3⟩, s4, s5, s6, s7⟩ := hS
  refine ⟨⟨by rw [hf _ _ (by omega) (by omega), s1], by rw [hf _ _ (by omega) (by omega), s2], by rw [hf _ _ (by omega) (by omega), s3]⟩, fun c hc ht => ?_, fun a ha => by rw [hf _ _ (by omega) (by omega), s5 a ha], by rw [hf _ _ (by omega) (by omega), s6], fun k hk => ?_⟩
  · obtain ⟨a, b, c⟩ := s4 c hc ht
    exact ⟨by rw [hf _ _ (by omega) (by omega)]; exact a, by rw [hf _ _ (by omega) (by omega)]; exact b, by rw [hf _ _ (by omega) (by omega)]; exact c⟩
  · obtain ⟨a, b, c⟩ := s7 k hk
    exact ⟨by rw [hf _ _ (by omega) (by omega)]; exact a, by rw [hf _ _ (by omega) (by omega)]; exact b, by rw [hf _ _ (by omega) (by omega)]; exact c⟩
theorem zHR_at : ∀ k, k < 4 → zHR 20 k = zsl k ∧ (Nat.beq (zSk (zHR 20 k)) (zmci 64) && Nat.beq 1 1 && Nat.ble 0 8) = true := by decide +kernel
theorem zcf_sl {k : Nat} (hk : k < 4) : zCF (zsl k) 1 ∧ zCF 1 (zsl k) := by
  have : k = 0 ∨ k = 1 ∨ k = 2 ∨ k = 3 := by omega
  rcases this with rfl | rfl | rfl | rfl
  · exact ⟨zcf_21_1, zcf_1_21⟩
  · exact ⟨zcf_30_1, zcf_1_30⟩
  · exact ⟨zcf_39_1, zcf_1_39⟩
  · exact ⟨zcf_48_1, zcf_1_48⟩
theorem zn_rem {h : zHp} {m : Nat → Nat} {hs : List (Nat → Nat)} (hS : zSr h 1 m) (hB : zB m) (hH : zCH h hs) : ∃ h', zM_65 [.inr 19, .inr 1] h = some (none, h') ∧ zCH h' (zph hs m) ∧ ∀ b j, (b < 19 ∨ b = 20 ∨ 57 ≤ b) → h' b j = h b j := by
  obtain ⟨c1, c2, nx, c3, c4, c5⟩ := hH
  obtain ⟨g1, g2⟩ := zHR_at nx c3
  have hcf := (zcf_sl c3).1
  have hd : zsl nx + 9 ≤ 1 ∨ 1 + 9 ≤ zsl nx := Or.inr (by unfold zsl; omega)
  obtain ⟨k1, k2⟩ := zc64_S hd hB hS
  have start := ze_65 h
  rw [c4, zS_ib _ (by omega), decide_eq_true c3, if_pos rfl, zS_cl (by omega), g2, if_pos rfl, g1, hcf h] at start
  simp only [Option.bind_some, zpush] at start
  generalize zc63 (zc64a h (zsl nx) 1) (zsl nx + 5) (1 + 5) = h1 at start k1 k2
  have e0 : h1 19 0 = nI hs.length := by rw [k2 19 0 (Or.inl (by unfold zsl; omega)), c1]
  have e1 : h1 19 1 = nI nx := by rw [k2 19 1 (Or.inl (by unfold zsl; omega)), c4]
  have emin : ∀ n, n < 6 → zmin (nI 4) (nI n) = nI (if n < 4 then n else 4) := by decide +kernel
  rw [zb_65_13, e1, zS_add, zS_cge (by omega) (by omega), zS_zup_nk _ _ (by omega), zS_zup_nk _ _ (by omega), e0, zS_add, emin _ (by omega)] at start
  have hlen : (zph hs m).length = if hs.length + 1 < 4 then hs.length + 1 else 4 := by
    unfold zph
    split
    · rw [List.length_append, List.length_tail, List.length_cons, List.length_nil, if_neg (by omega)]
      omega
    · rw [List.length_append, List.length_cons, List.length_nil]
      split <;> omega
  have key : ∀ nx', nx' = (nx + 1) % 4 → ∃ h', zup (zup h1 19 1 (nI nx')) 19 0 (nI (if hs.length + 1 < 4 then hs.length + 1 else 4)) = h' ∧ zCH h' (zph hs m) ∧ ∀ b j, (b < 19 ∨ b = 20 ∨ 57 ≤ b) → h' b j = h b j := by
    intro nx' hnx
    have hz : ∀ b j, b ≠ 19 → zup (zup h1 19 1 (nI nx')) 19 0 (nI (if hs.length + 1 < 4 then hs.length + 1 else 4)) b j = h1 b j := fun b j hb => by rw [zS_zup_ne _ hb, zS_zup_ne _ hb]
    refine ⟨_, rfl, ⟨by rw [zS_zup_same, hlen], zph_len c2 m, nx', by omega, by rw [zS_zup_nk _ _ (by omega), zS_zup_same], fun i x hx => ?_⟩, fun b j hb => by rw [hz b j (by omega), k2 b j (by unfold zsl; omega)]⟩
    have hlt := (List.getElem?_eq_some_iff.mp hx).1
    rw [hlen] at hlt ⊢
    have fr : ∀ p y, 20 ≤ p → zSr h1 p y → zSr (zup (zup h1 19 1 (nI nx')) 19 0 (nI (if hs.length + 1 < 4 then hs.length + 1 else 4))) p y := fun p y hp hy => zSr_fr hy (fun b j a b2 => hz b j (by omega))
    have old : ∀ i' q, hs[i']? = some x → (nx + 4 - hs.length + i') % 4 = q → q ≠ nx → zSr (zup (zup h1 19 1 (nI nx')) 19 0 (nI (if hs.length + 1 < 4 then hs.length + 1 else 4))) (zsl q) x := by
      intro i' q h1x h2x h3x
      have h4x := c5 i' x h1x
      rw [h2x] at h4x
      have hq4 : q < 4 := by omega
      exact fr _ _ (by unfold zsl; omega) (zSr_fr h4x (fun b j a b2 => k2 b j (by unfold zsl at *; omega)))
    by_cases h4 : hs.length = 4
    · unfold zph at hx
      rw [if_pos h4] at hx
      by_cases hi : i < 3
      · rw [List.getElem?_append_left (by simp; omega), List.getElem?_tail] at hx
        refine old (i + 1) _ hx ?_ ?_
        · rw [if_neg (by omega)]
          omega
        · rw [if_neg (by omega)]
          omega
      · have hi3 : i = 3 := by
          rw [if_neg (by omega)] at hlt
          omega
        have hl : hs.tail.length = 3 := by simp; omega
        rw [List.getElem?_append_right (by omega), hl, hi3] at hx
        have hxm : m = x := by simpa using hx
        have hq : (nx' + 4 - (if hs.length + 1 < 4 then hs.length + 1 else 4) + i) % 4 = nx := by
          rw [if_neg (by omega)]
          omega
        rw [hq, ← hxm]
        exact fr _ _ (by unfold zsl; omega) k1
    · unfold zph at hx
      rw [if_neg h4] at hx
      by_cases hi : i < hs.length
      · rw [List.getElem?_append_left hi] at hx
        refine old i _ hx ?_ ?_
        · split <;> omega
        · split <;> omega
      · have hil : i = hs.length := by
          split at hlt <;> omega
        rw [List.getElem?_append_right (by omega), hil, Nat.sub_self] at hx
        have hxm : m = x := by simpa using hx
        have hq : (nx' + 4 - (if hs.length + 1 < 4 then hs.length + 1 else 4) + i) % 4 = nx := by
          split <;> omega
        rw [hq, ← hxm]
        exact fr _ _ (by unfold zsl; omega) k1
  by_cases h5 : 4 ≤ nx + 1
  · rw [decide_eq_true h5, if_pos rfl] at start
    obtain ⟨h', r1, r2, r3⟩ := key 0 (by omega)
    rw [r1] at start
    exact ⟨h', start, r2, r3⟩
  · rw [decide_eq_false h5, if_neg (by decide)] at start
    obtain ⟨h', r1, r2, r3⟩ := key (nx + 1) (by omega)
    rw [r1] at start
    exact ⟨h', start, r2, r3⟩
