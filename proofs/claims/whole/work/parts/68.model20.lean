/-! The questions over all repaints; repaint. -/
theorem zbs_0 {m : Nat → Nat} {L : List (Nat → Nat)} (h : L.length = 0) : zbs m L = none := by
  rw [List.eq_nil_of_length_eq_zero h]
  rfl
theorem zfw_0 {m : Nat → Nat} {L : List (Nat → Nat)} (h : L.length = 0) : zfw m L = none := by
  rw [List.eq_nil_of_length_eq_zero h]
  rfl
theorem zbs_mem1 (m : Nat → Nat) : ∀ (L : List (Nat → Nat)) (b q : Nat → Nat), L.foldl (zbst m) (some b) = some q → q = b ∨ q ∈ L := by
  intro L
  induction L with
  | nil => intro b q h; cases h; exact Or.inl rfl
  | cons a L ih =>
    intro b q h
    rw [List.foldl_cons] at h
    unfold zbst at h
    dsimp only at h
    split at h
    · rcases ih a q h with e | e
      · exact Or.inr (by rw [e]; exact List.mem_cons_self)
      · exact Or.inr (List.mem_cons_of_mem _ e)
    · rcases ih b q h with e | e
      · exact Or.inl e
      · exact Or.inr (List.mem_cons_of_mem _ e)
theorem zbs_mem {m : Nat → Nat} {L : List (Nat → Nat)} {q : Nat → Nat} (h : zbs m L = some q) : q ∈ L := by
  cases L with
  | nil => cases h
  | cons a L =>
    rcases zbs_mem1 m L a q h with e | e
    · rw [e]; exact List.mem_cons_self
    · exact List.mem_cons_of_mem _ e
theorem zsv_mem {f : Nat → List (Nat → Nat)} {q : Nat → Nat} : ∀ (n w : Nat), q ∈ zsv f w n → ∃ v, w ≤ v ∧ v < w + n ∧ q ∈ f v := by
  intro n
  induction n with
  | zero => intro w h; simp [zsv] at h
  | succ n ih =>
    intro w h
    rcases List.mem_append.mp h with h | h
    · exact ⟨w, by omega, by omega, h⟩
    · obtain ⟨v, a, b, c⟩ := ih (w + 1) h
      exact ⟨v, by omega, by omega, c⟩
theorem zsol_lt {m : Nat → Nat} {e1 e2 : Int32} : ∀ (k i : Nat) (p q : Nat → Nat), q ∈ zsol m e1 e2 k i p → (∀ c, c < i → p c < 4) → ∀ c, c < i + k → q c < 4 := by
  intro k
  induction k with
  | zero =>
    intro i p q h hp c hc
    simp [zsol] at h
    rw [h]
    exact hp c (by omega)
  | succ k ih =>
    intro i p q h hp c hc
    unfold zsol at h
    split at h
    · obtain ⟨v, v1, v2, v3⟩ := zsv_mem _ _ h
      split at v3
      · exact ih (i + 1) (zu p i v) q v3 (fun d hd => by
          by_cases hdi : d = i
          · rw [hdi, zu_same]; omega
          · rw [zu_ne _ hdi]; exact hp d (by omega)) c (by omega)
      · cases v3
    · exact ih (i + 1) (zu p i 0) q h (fun d hd => by
          by_cases hdi : d = i
          · rw [hdi, zu_same]; omega
          · rw [zu_ne _ hdi]; exact hp d (by omega)) c (by omega)
theorem zall1_len {m : Nat → Nat} (hB : zB m) (e1 e2 : Int32) : (zall1 m e1 e2).length ≤ 65536 := by
  have h1 := zsol_len m e1 e2 (zev8 m) 0 (fun _ => 0)
  have h2 : 4 ^ zev8 m ≤ 4 ^ 8 := Nat.pow_le_pow_right (by omega) (zB_ev hB)
  have h3 : (4 : Nat) ^ 8 = 65536 := by decide
  unfold zall1
  omega
theorem zm_recK {h : zHp} {m : Nat → Nat} {hs : List (Nat → Nat)} {sn : Option (Nat → Nat)} {tx : List Nat} (hV : zMV h m hs sn tx) : ∃ h', zM_2 [.inr 76] h = some (none, h') ∧ zMV h' m (zph hs m) sn tx ∧ zlo h h' ∧ (∀ b j, b ≠ 78 → ¬ (b = 76 ∧ j = 2) → h' b j = h b j) := by
  obtain ⟨h1, p1, p2, p3⟩ := zm_recV hV
  obtain ⟨h2, q1, q2, q3⟩ := zm_rec hV.1 hV.2.1
  have e := p1.symm.trans q1
  simp only [Option.some.injEq, Prod.mk.injEq, true_and] at e
  subst e
  exact ⟨h1, p1, p2, p3, q3⟩
def zmPt (m q : Nat → Nat) (x : Nat) : Nat → Nat := fun j => if j < 5 * x ∧ j % 5 = 1 ∧ zt m (j / 5) = true then q (j / 5) else m j
theorem zmPt_0 (m q : Nat → Nat) : zmPt m q 0 = m := by
  funext j
  unfold zmPt
  rw [if_neg (by omega)]
theorem zmPt_step (m q : Nat → Nat) (x : Nat) : zmPt m q (x + 1) = if zt m x = true then zu (zmPt m q x) (5 * x + 1) (q x) else zmPt m q x := by
  split
  · rename_i h
    funext j
    unfold zu
    by_cases hj : j = 5 * x + 1
    · rw [if_pos hj]
      unfold zmPt
      rw [show j / 5 = x by omega, if_pos ⟨by omega, by omega, h⟩]
    · rw [if_neg hj]
      unfold zmPt
      by_cases h2 : j < 5 * x ∧ j % 5 = 1 ∧ zt m (j / 5) = true
      · rw [if_pos h2, if_pos ⟨by omega, h2.2.1, h2.2.2⟩]
      · rw [if_neg h2, if_neg (fun e => h2 ⟨by omega, e.2.1, e.2.2⟩)]
  · rename_i h
    funext j
    unfold zmPt
    by_cases h2 : j < 5 * x ∧ j % 5 = 1 ∧ zt m (j / 5) = true
    · rw [if_pos h2, if_pos ⟨by omega, h2.2.1, h2.2.2⟩]
    · rw [if_neg h2, if_neg (fun e => h2 ⟨by
        have : j / 5 ≠ x := fun r => h (by rw [← r]; exact e.2.2)
        omega, e.2.1, e.2.2⟩)]
theorem zmPt_un (m q : Nat → Nat) (x : Nat) {j : Nat} (hj : 40 ≤ j ∨ j % 5 ≠ 1) (hx : x ≤ 8) : zmPt m q x j = m j := by
  unfold zmPt
  rw [if_neg (by omega)]
theorem zt_Pt (m q : Nat → Nat) {x : Nat} (hx : x ≤ 8) (c : Nat) : zt (zmPt m q x) c = zt m c := by
  unfold zt
  have h1 : zev8 (zmPt m q x) = zev8 m := zmPt_un _ _ _ (by omega) hx
  have h2 : zof (zmPt m q x) c 0 = zof m c 0 := zmPt_un _ _ _ (by omega) hx
  rw [h1, h2]
theorem zI_pt {m q : Nat → Nat} (h : zI m) (hq : ∀ c, c < zev8 m → q c < 4) : ∀ x, x ≤ zev8 m → zI (zmPt m q x) := by
  have he := zB_ev h.1
  intro x
  induction x with
  | zero => intro _; rw [zmPt_0]; exact h
  | succ x ih =>
    intro hx
    have := hq x (by omega)
    rw [zmPt_step]
    split
    · exact zI_field (by omega) (by omega) (by omega) ⟨fun _ => by omega, fun e => by omega, fun e => by omega, fun e => by omega⟩ (ih (by omega))
    · exact ih (by omega)
theorem zm_rp1 {m q : Nat → Nat} {hs : List (Nat → Nat)} {sn : Option (Nat → Nat)} {tx : List Nat} (hI : zI m) (hq : ∀ c, c < zev8 m → q c < 4) {cost : Nat} : ∀ (n x : Nat) (h : zHp), x + n = zev8 m → zMV h (zmPt m q x) hs sn tx → (∀ c, c < zev8 m → h 81 c = nI (q c)) → h 76 8 = nI cost → ∃ h', zr_36 30 [some (.inr 76), some (.inl (nI x))] [] h = some (some (nI cost), h') ∧ zMV h' (zmPt m q (zev8 m)) hs sn tx ∧ zlo h h' := by
  have he := zB_ev hI.1
  intro n
  induction n with
  | zero =>
    intro x h hx hV h81 h8
    have hx : x = zev8 m := by omega
    subst hx
    have h9 : zev8 (zmPt m q (zev8 m)) = zev8 m := zmPt_un _ _ _ (by omega) he
    refine ⟨h, ?_, hV, zlo_rf h⟩
    rw [zb_36_30, zg149, zR_149 hV.1, h9, zS_cge (by omega) (by omega), if_pos rfl, decide_eq_true (by omega), if_pos rfl, h8]
  | succ n ih =>
    intro x h hx hV h81 h8
    have h9 : zev8 (zmPt m q x) = zev8 m := zmPt_un _ _ _ (by omega) (by omega)
    have hst := zmPt_step m q x
    have hB2 := (zI_pt hI hq x (by omega)).1
    rw [zb_36_30, zg149, zR_149 hV.1, h9, zS_cge (by omega) (by omega), if_pos rfl, decide_eq_false (by omega), if_neg (by decide), zm_there_n hV.1 hB2 (by omega), zt_Pt m q (by omega)]
    simp only [Option.bind_some, zpush]
    rw [zb_36_47, zS_b0]
    cases h1 : zt m x with
    | false =>
      rw [h1, if_neg (by decide)] at hst
      rw [← hst] at hV
      rw [if_pos (by decide), zb_36_62, zS_add]
      exact ih (x + 1) h (by omega) hV h81 h8
    | true =>
      rw [h1, if_pos rfl] at hst
      have hV2 := zMV_up hV (5 * x + 1) (q x)
      rw [← hst] at hV2
      obtain ⟨h', q1, q2, q3⟩ := ih (x + 1) _ (by omega) hV2 (fun c hc => by rw [zS_zup_ne _ (by omega), h81 c hc]) (by rw [zS_zup_ne _ (by omega), h8])
      refine ⟨h', ?_, q2, zlo_tr (zlo_up (zlo_rf h) (by omega) _ _) q3⟩
      rw [if_neg (by decide), zS_ib _ (by omega), decide_eq_true (by omega), if_pos rfl, zS_cl (by omega), h81 x (by omega), zm_puts _ (by omega)]
      simp only [Option.bind_some, zpush]
      rw [zb_36_62, zS_add]
      exact q1
def zEs (m : Nat → Nat) : List (Nat → Nat) := zall1 m (-5) (-5)
def zoRp (m : Nat → Nat) : Int32 × Option (Nat → Nat) := match zbs m (zEs m) with
  | none => (-4, none)
  | some q => if zwrs m = 0 then (-5, none) else (nI (zcost m q), some (zmPt m q (zev8 m)))
theorem zE_lt {m q : Nat → Nat} {e1 e2 : Int32} (h : zbs m (zall1 m e1 e2) = some q) : ∀ c, c < zev8 m → q c < 4 := fun c hc => zsol_lt _ _ _ _ (zbs_mem h) (fun d hd => by omega) c (by omega)
theorem zI_rp {m : Nat → Nat} (h : zI m) (m' : Nat → Nat) (hm : (zoRp m).2 = some m') : zI m' := by
  unfold zoRp at hm
  cases hb : zbs m (zEs m) with
  | none => rw [hb] at hm; cases hm
  | some q =>
    rw [hb] at hm
    dsimp only at hm
    split at hm
    · cases hm
    · cases hm
      exact zI_pt h (zE_lt hb) _ (Nat.le_refl _)
theorem zm_rp {h : zHp} {m : Nat → Nat} {hs : List (Nat → Nat)} {sn : Option (Nat → Nat)} {tx : List Nat} (hV : zMV h m hs sn tx) (hI : zI m) : zAns (zM_36 [.inr 76]) (zoRp m) h m hs sn tx := by
  have hR := hV.1
  have hB := hI.1
  have he := zB_ev hB
  obtain ⟨h1, a1, ⟨c1, c2, c3, c4⟩, a3⟩ := zm_gt hR hB hV.2.2.2.2.1 hV.2.2.2.2.2
  have hV1 := zKp_V a3 hV
  have hl := zKp_lo a3
  have e1 := ze_36 h
  have hln := zall1_len hB (-5) (-5)
  rw [a1] at e1
  simp only [Option.bind_some, zpush] at e1
  rw [zb_36_4, c1, zS_cne (by omega) (by omega)] at e1
  have hE : zEs m = zall1 m (-5) (-5) := rfl
  unfold zoRp
  rw [hE]
  by_cases h2 : (zall1 m (-5) (-5)).length = 0
  · rw [decide_eq_true h2, if_neg (by decide)] at e1
    rw [zbs_0 h2]
    exact ⟨h1, e1, hV1, hl⟩
  · obtain ⟨q, hq⟩ := zbs_ne (m := m) h2
    obtain ⟨g1, g2⟩ := c3 q hq
    have hwl : zwrs m < 256 := zset8_lt _ he
    rw [decide_eq_false h2, if_pos (by decide), zm_wrs hV1.1 hB] at e1
    simp only [Option.bind_some, zpush] at e1
    rw [zb_36_18, zS_cne (by omega) (by omega)] at e1
    rw [hq]
    dsimp only
    by_cases h3 : zwrs m = 0
    · rw [decide_eq_true h3, if_neg (by decide)] at e1
      rw [if_pos h3]
      exact ⟨h1, e1, hV1, hl⟩
    · obtain ⟨h', p1, p2, p3, p4⟩ := zm_recK hV1
      rw [decide_eq_false h3, if_pos (by decide), p1] at e1
      simp only [Option.bind_some, zpush] at e1
      rw [if_neg h3]
      obtain ⟨h'', q1, q2, q3⟩ := zm_rp1 (q := q) (hs := zph hs m) (sn := sn) (tx := tx) hI (zE_lt hq) (cost := zcost m q) (zev8 m) 0 h' (by omega) (by rw [zmPt_0]; exact p2) (fun c hc => by rw [p4 81 c (by omega) (by omega), g2 c hc]) (by rw [p4 76 8 (by omega) (by omega), g1])
      rw [zb_36_28, q1] at e1
      exact ⟨h'', e1, q2, zlo_tr hl (zlo_tr p3 q3)⟩
