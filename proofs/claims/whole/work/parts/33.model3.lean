/-! The reference's history, and its heap as a whole. -/
/-- x numbers of the row s from slo on, into the row d from lo on -/
def zcy (h : zHp) (d lo s slo x : Nat) : zHp := fun b j => if b = d ∧ lo ≤ j ∧ j < lo + x then h s (slo + (j - lo)) else h b j
theorem zcy_0 (h : zHp) (d lo s slo : Nat) : zcy h d lo s slo 0 = h := by
  funext b j
  unfold zcy
  rw [if_neg (by omega)]
theorem zcy_step (h : zHp) {d s : Nat} (hd : s ≠ d) (lo slo x : Nat) : zup (zcy h d lo s slo x) d (lo + x) (zcy h d lo s slo x s (slo + x)) = zcy h d lo s slo (x + 1) := by
  funext b j
  have h1 : zcy h d lo s slo x s (slo + x) = h s (slo + x) := by
    unfold zcy
    rw [if_neg (by omega)]
  rw [h1]
  unfold zup
  by_cases hb : b = d ∧ j = lo + x
  · rw [if_pos hb]
    unfold zcy
    rw [if_pos (by omega)]
    congr 1
    omega
  · rw [if_neg hb]
    unfold zcy
    by_cases h2 : b = d ∧ lo ≤ j ∧ j < lo + x
    · rw [if_pos h2, if_pos (by omega)]
    · rw [if_neg h2, if_neg (by omega)]
theorem zcy_in (h : zHp) {d lo s slo x j : Nat} (h1 : lo ≤ j) (h2 : j < lo + x) : zcy h d lo s slo x d j = h s (slo + (j - lo)) := by
  unfold zcy
  rw [if_pos ⟨rfl, h1, h2⟩]
theorem zcy_ne (h : zHp) {d lo s slo x b : Nat} (hb : b ≠ d) (j : Nat) : zcy h d lo s slo x b j = h b j := by
  unfold zcy
  rw [if_neg (fun e => hb e.1)]
theorem zcy_out (h : zHp) {d lo s slo x j : Nat} (h1 : j < lo ∨ lo + x ≤ j) (b : Nat) : zcy h d lo s slo x b j = h b j := by
  unfold zcy
  rw [if_neg (by omega)]
/-- the history one state down -/
def zsh (h : zHp) (x : Nat) : zHp := fun b j => if b = 78 ∧ j < x then h 78 (j + 150) else h b j
theorem zsh_step (h : zHp) (x : Nat) : zup (zsh h x) 78 x (zsh h x 78 (x + 150)) = zsh h (x + 1) := by
  funext b j
  have h1 : zsh h x 78 (x + 150) = h 78 (x + 150) := by
    unfold zsh
    rw [if_neg (by omega)]
  rw [h1]
  unfold zup
  by_cases hb : b = 78 ∧ j = x
  · rw [if_pos hb]
    unfold zsh
    rw [if_pos (by omega), hb.2]
  · rw [if_neg hb]
    unfold zsh
    by_cases h2 : b = 78 ∧ j < x
    · rw [if_pos h2, if_pos (by omega)]
    · rw [if_neg h2, if_neg (by omega)]
theorem zsh_0 (h : zHp) : zsh h 0 = h := by
  funext b j
  unfold zsh
  rw [if_neg (by omega)]
theorem zm_rec1 (h : zHp) : ∀ (n x : Nat), x + n = 450 → zr_2 10 [some (.inr 76), some (.inl (nI x))] [] (zsh h x) = zr_2 51 [some (.inr 76), some (.inl (nI 0))] [] (zup (zsh h 450) 76 2 ((zsh h 450 76 2) - nI 1)) := by
  intro n
  induction n with
  | zero =>
    intro x hx
    have hx : x = 450 := by omega
    subst hx
    rw [zb_2_10, zS_cge (by omega) (by omega), decide_eq_true (by omega), if_pos rfl]
  | succ n ih =>
    intro x hx
    rw [zb_2_10, zS_cge (by omega) (by omega), decide_eq_false (by omega), if_neg (by decide), zS_add, zS_ib _ (by omega), decide_eq_true (by omega), if_pos rfl, zS_ib _ (by omega), decide_eq_true (by omega), if_pos rfl, zS_cl (by omega), zS_cl (by omega), zsh_step, zS_add]
    exact ih (x + 1) (by omega)
theorem zm_rec2 (h : zHp) {k : Nat} (hk : k < 4) (hh : h 76 2 = nI k) : ∀ (n x : Nat), x + n = 150 → zr_2 51 [some (.inr 76), some (.inl (nI x))] [] (zcy h 78 (150 * k) 77 0 x) = some (none, zup (zcy h 78 (150 * k) 77 0 150) 76 2 (nI (k + 1))) := by
  intro n
  induction n with
  | zero =>
    intro x hx
    have hx : x = 150 := by omega
    subst hx
    rw [zb_2_51, zS_cge (by omega) (by omega), decide_eq_true (by omega), if_pos rfl, zcy_ne _ (by omega), hh, zS_add]
  | succ n ih =>
    intro x hx
    rw [zb_2_51, zS_cge (by omega) (by omega), decide_eq_false (by omega), if_neg (by decide), zS_ib _ (by omega), decide_eq_true (by omega), if_pos rfl, zcy_ne _ (by omega), hh, zS_mul, zS_add, zS_ib _ (by omega), decide_eq_true (by omega), if_pos rfl, zS_cl (by omega), zS_cl (by omega), zS_add]
    have h1 := zcy_step h (d := 78) (s := 77) (by omega) (150 * k) 0 x
    rw [Nat.zero_add] at h1
    rw [h1]
    exact ih (x + 1) (by omega)
/-- the history in the heap -/
def zMH (h : zHp) (hs : List (Nat → Nat)) : Prop := h 76 2 = nI hs.length ∧ hs.length ≤ 4 ∧ ∀ i (x : Nat → Nat), hs[i]? = some x → ∀ k, k < 150 → h 78 (150 * i + k) = nI (x k)
/-- one state more -/
def zph (hs : List (Nat → Nat)) (m : Nat → Nat) : List (Nat → Nat) := (if hs.length = 4 then hs.tail else hs) ++ [m]
theorem zph_len {hs : List (Nat → Nat)} (h : hs.length ≤ 4) (m : Nat → Nat) : (zph hs m).length ≤ 4 := by
  unfold zph
  split
  · simp; omega
  · simp; omega
theorem zm_rec {h : zHp} {m : Nat → Nat} {hs : List (Nat → Nat)} (hR : zR h m) (hH : zMH h hs) : ∃ h', zM_2 [.inr 76] h = some (none, h') ∧ zMH h' (zph hs m) ∧ (∀ b j, b ≠ 78 → ¬ (b = 76 ∧ j = 2) → h' b j = h b j) := by
  obtain ⟨h1, h2, h3⟩ := hH
  rw [ze_2, h1, zS_cne (by omega) (by omega)]
  by_cases h4 : hs.length = 4
  · rw [decide_eq_true h4, if_neg (by decide)]
    have e1 := zm_rec1 h 450 0 (by omega)
    rw [zsh_0] at e1
    rw [e1]
    have e2 : zsh h 450 76 2 = nI 4 := by
      unfold zsh
      rw [if_neg (by omega), h1, h4]
    rw [e2, zS_sub (by omega)]
    have e3 := zm_rec2 (zup (zsh h 450) 76 2 (nI 3)) (k := 3) (by omega) (zS_zup_same _ _ _ _) 150 0 (by omega)
    rw [zcy_0] at e3
    refine ⟨_, e3, ⟨?_, ?_, ?_⟩, ?_⟩
    · rw [zS_zup_same]
      simp [zph, h4]
    · exact zph_len h2 m
    · intro i x hx k hk
      rw [zS_zup_ne _ (by omega)]
      unfold zph at hx
      rw [if_pos h4] at hx
      by_cases hi : i < 3
      · rw [List.getElem?_append_left (by simp; omega)] at hx
        rw [zcy_out _ (by omega), zS_zup_ne _ (by omega)]
        unfold zsh
        rw [if_pos (by omega)]
        rw [List.getElem?_tail] at hx
        have := h3 (i + 1) x hx k hk
        rw [← this]
        congr 1
        omega
      · have hlt : i < 4 := by
          have := (List.getElem?_eq_some_iff.mp hx).1
          simp at this
          omega
        have hi3 : i = 3 := by omega
        subst hi3
        have hxm : x = m := by
          have hl : hs.tail.length = 3 := by simp; omega
          rw [List.getElem?_append_right (by omega), hl] at hx
          simpa using hx.symm
        subst hxm
        rw [zcy_in _ (by omega) (by omega), zS_zup_ne _ (by omega)]
        unfold zsh
        rw [if_neg (by omega), ← hR k hk]
        exact congrArg (h 77) (by omega)
    · intro b j hb hj
      have hz : ∀ g : zHp, ∀ v, zup g 76 2 v b j = g b j := fun g v => by unfold zup; rw [if_neg hj]
      rw [hz, zcy_ne _ hb, hz]
      unfold zsh
      rw [if_neg (fun e => hb e.1)]
  · rw [decide_eq_false h4, if_pos (by decide)]
    have e3 := zm_rec2 h (k := hs.length) (by omega) h1 150 0 (by omega)
    rw [zcy_0] at e3
    refine ⟨_, e3, ⟨?_, ?_, ?_⟩, ?_⟩
    · rw [zS_zup_same]
      simp [zph, h4]
    · exact zph_len h2 m
    · intro i x hx k hk
      rw [zS_zup_ne _ (by omega)]
      unfold zph at hx
      rw [if_neg h4] at hx
      by_cases hi : i < hs.length
      · rw [List.getElem?_append_left hi] at hx
        rw [zcy_out _ (by omega)]
        exact h3 i x hx k hk
      · have hlt := (List.getElem?_eq_some_iff.mp hx).1
        simp only [List.length_append, List.length_cons, List.length_nil] at hlt
        have hi3 : i = hs.length := by omega
        subst hi3
        have hxm : x = m := by
          rw [List.getElem?_append_right (by omega)] at hx
          simpa using hx.symm
        subst hxm
        rw [zcy_in _ (by omega) (by omega), ← hR k hk]
        exact congrArg (h 77) (by omega)
    · intro b j hb hj
      have hz : ∀ g : zHp, ∀ v, zup g 76 2 v b j = g b j := fun g v => by unfold zup; rw [if_neg hj]
      rw [hz, zcy_ne _ hb]
/-- the snapshot, the text -/
def zMS (h : zHp) (sn : Option (Nat → Nat)) : Prop := h 76 4 = nI sn.isSome.toNat ∧ ∀ x, sn = some x → ∀ k, k < 150 → h 79 k = nI (x k)
def zMT (h : zHp) (tx : List Nat) : Prop := h 76 13 = nI tx.length ∧ tx.length ≤ 60 ∧ ∀ i (x : Nat), tx[i]? = some x → h 83 i = nI x
/-- the reference's heap as a whole -/
def zMV (h : zHp) (m : Nat → Nat) (hs : List (Nat → Nat)) (sn : Option (Nat → Nat)) (tx : List Nat) : Prop := zR h m ∧ zMH h hs ∧ zMS h sn ∧ zMT h tx ∧ h 76 11 = -5 ∧ h 76 12 = -5
/-- what of the heap shows -/
theorem zMV_keep {h h' : zHp} {m : Nat → Nat} {hs : List (Nat → Nat)} {sn : Option (Nat → Nat)} {tx : List Nat} (hV : zMV h m hs sn tx) (h77 : ∀ j, h' 77 j = h 77 j) (h78 : ∀ j, h' 78 j = h 78 j) (h79 : ∀ j, h' 79 j = h 79 j) (h83 : ∀ j, h' 83 j = h 83 j) (h76 : ∀ j, j = 2 ∨ j = 4 ∨ j = 11 ∨ j = 12 ∨ j = 13 → h' 76 j = h 76 j) : zMV h' m hs sn tx := by
  obtain ⟨a, ⟨b1, b2, b3⟩, ⟨c1, c2⟩, ⟨d1, d2, d3⟩, e1, e2⟩ := hV
  refine ⟨fun k hk => by rw [h77, a k hk], ⟨by rw [h76 _ (by omega), b1], b2, fun i x hx k hk => by rw [h78, b3 i x hx k hk]⟩, ⟨by rw [h76 _ (by omega), c1], fun x hx k hk => by rw [h79, c2 x hx k hk]⟩, ⟨by rw [h76 _ (by omega), d1], d2, fun i x hx => by rw [h83, d3 i x hx]⟩, by rw [h76 _ (by omega), e1], by rw [h76 _ (by omega), e2]⟩
/-- a number put into the row -/
def zu (m : Nat → Nat) (k x : Nat) : Nat → Nat := fun j => if j = k then x else m j
theorem zR_up {h : zHp} {m : Nat → Nat} (hR : zR h m) (k x : Nat) : zR (zup h 77 k (nI x)) (zu m k x) := by
  intro j hj
  unfold zup zu
  by_cases hk : j = k
  · rw [if_pos ⟨rfl, hk⟩, if_pos hk]
  · rw [if_neg (fun e => hk e.2), if_neg hk, hR j hj]
theorem zMV_up {h : zHp} {m : Nat → Nat} {hs : List (Nat → Nat)} {sn : Option (Nat → Nat)} {tx : List Nat} (hV : zMV h m hs sn tx) (k x : Nat) : zMV (zup h 77 k (nI x)) (zu m k x) hs sn tx := by
  obtain ⟨a, ⟨b1, b2, b3⟩, ⟨c1, c2⟩, ⟨d1, d2, d3⟩, e1, e2⟩ := hV
  have hz : ∀ b j, b ≠ 77 → zup h 77 k (nI x) b j = h b j := fun b j hb => zS_zup_ne _ hb _ _ _
  exact ⟨zR_up a k x, ⟨by rw [hz _ _ (by omega), b1], b2, fun i y hy j hj => by rw [hz _ _ (by omega), b3 i y hy j hj]⟩, ⟨by rw [hz _ _ (by omega), c1], fun y hy j hj => by rw [hz _ _ (by omega), c2 y hy j hj]⟩, ⟨by rw [hz _ _ (by omega), d1], d2, fun i y hy => by rw [hz _ _ (by omega), d3 i y hy]⟩, by rw [hz _ _ (by omega), e1], by rw [hz _ _ (by omega), e2]⟩
/-- below the reference's cells nothing changes -/
def zlo (h h' : zHp) : Prop := ∀ b, b < 76 → ∀ j, h' b j = h b j
theorem zlo_rf (h : zHp) : zlo h h := fun _ _ _ => rfl
theorem zlo_tr {h h' h'' : zHp} (a : zlo h h') (b : zlo h' h'') : zlo h h'' := fun c hc j => by rw [b c hc, a c hc]
theorem zlo_up {h h' : zHp} (a : zlo h h') {k : Nat} (hk : 76 ≤ k) (j : Nat) (x : Int32) : zlo h (zup h' k j x) := fun c hc i => by rw [zS_zup_ne _ (by omega), a c hc]
theorem zm_recV {h : zHp} {m : Nat → Nat} {hs : List (Nat → Nat)} {sn : Option (Nat → Nat)} {tx : List Nat} (hV : zMV h m hs sn tx) : ∃ h', zM_2 [.inr 76] h = some (none, h') ∧ zMV h' m (zph hs m) sn tx ∧ zlo h h' := by
  obtain ⟨a, b, ⟨c1, c2⟩, ⟨d1, d2, d3⟩, e1, e2⟩ := hV
  obtain ⟨h', p1, p2, p3⟩ := zm_rec a b
  have hz : ∀ b j, b ≠ 78 → b ≠ 76 → h' b j = h b j := fun b j hb hb2 => p3 b j hb (fun e => hb2 e.1)
  have hy : ∀ j, j ≠ 2 → h' 76 j = h 76 j := fun j hj => p3 76 j (by omega) (fun e => hj e.2)
  refine ⟨h', p1, ⟨fun k hk => by rw [hz _ _ (by omega) (by omega), a k hk], p2, ⟨by rw [hy _ (by omega), c1], fun y hy j hj => by rw [hz _ _ (by omega) (by omega), c2 y hy j hj]⟩, ⟨by rw [hy _ (by omega), d1], d2, fun i y hy => by rw [hz _ _ (by omega) (by omega), d3 i y hy]⟩, by rw [hy _ (by omega), e1], by rw [hy _ (by omega), e2]⟩, fun b hb j => hz b j (by omega) (by omega)⟩
