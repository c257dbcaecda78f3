/-! readBorders. -/
theorem zTx_k7 {h h' : zHp} {tx : List Nat} {k : Nat} (a : zk7 h h') (hT : zTx h tx k) : zTx h' tx k := by
  obtain ⟨t1, t2, t3, t4, t5⟩ := hT
  exact ⟨by rw [a 76 13 (by omega), t1], t2, fun j hj => by rw [a 83 j (by omega)]; exact t3 j hj, by rw [a 76 15 (by omega), t4], t5⟩
theorem zt_ly {m : Nat → Nat} (hB : zB m) {x y len : Nat} (hx : x < 8) (hy : y < 8) (c : Nat) : zt (zly m x y len) c = zt m c := by
  have he := zB_ev hB
  have hn := zB_nb hB
  have h1 : zev8 (zly m x y len) = zev8 m := zly_un hx hy hn (by omega)
  unfold zt
  rw [h1]
  by_cases hc : c < 8
  · have h2 : zof (zly m x y len) c 0 = zof m c 0 := zly_un hx hy hn (by omega)
    rw [h2]
  · rw [decide_eq_false (show ¬ c < zev8 m by omega), Bool.false_and, Bool.false_and]
theorem zany_congr {g g' : Nat × Nat × Nat → Bool} (h : ∀ x, g x = g' x) : ∀ l, zany g l = zany g' l := by
  intro l
  induction l with
  | nil => rfl
  | cons x l ih =>
    unfold zany
    rw [h x, ih]
theorem zm_rd2 {hs : List (Nat → Nat)} {sn : Option (Nat → Nat)} {tx : List Nat} {N : Nat} (hN : N ≤ 100) : ∀ (f k i : Nat) (l : List (Nat × Nat × Nat)) (m : Nat → Nat) (h : zHp) (d2 : Option zV), zpl tx f k = .inr l → i + l.length = N → zTx h tx k → zMV h m hs sn tx → zI m → zany (zbad2 m) l = false → zany zsam l = false → ∃ h', zr_28 115 [some (.inr 76), some (.inl (nI N)), d2, some (.inl (nI i))] [] h = some (some (nI N), h') ∧ zMV h' (zput m l) hs sn tx ∧ zlo h h' ∧ zI (zput m l) := by
  intro f
  induction f with
  | zero => intro k i l m h d2 hl; cases hl
  | succ f ih =>
    intro k i l m h d2 hl hi hT hV hI hbad hsam
    have he := zB_ev hI.1
    have hlen := zpl_len _ _ _ hl
    unfold zpl at hl
    cases hb : zpb tx k with
    | inl j => rw [hb] at hl; cases hl
    | inr r =>
      obtain ⟨j, a, b, n⟩ := r
      rw [hb] at hl
      dsimp only at hl
      obtain ⟨h1, p1, p2⟩ := zm_border1 hT
      rw [hb] at p2
      obtain ⟨r1, r2, r3, r4, r5⟩ := p2
      obtain ⟨g1, g2, g3, g4⟩ := zpb_in hb
      have hj61 := r2.2.2.2.2
      have hlj : ∃ l', l = (a, b, n) :: l' ∧ (l' = [] ∨ (zpl tx f (j + 1) = .inr l' ∧ j + 1 ≤ 61)) := by
        split at hl
        · cases hl
          exact ⟨[], rfl, Or.inl rfl⟩
        · split at hl
          · cases hl
          · split at hl
            · cases hl
            · rename_i h5 l' hl'
              cases hl
              have := r2.2.1
              exact ⟨l', rfl, Or.inr ⟨hl', by omega⟩⟩
      obtain ⟨l', hl1, hl2⟩ := hlj
      subst hl1
      rw [List.length_cons] at hi
      have hbad2 : ((!zt m a || !zt m b) || zany (zbad2 m) l') = false := hbad
      have hsam2 : (decide (a = b) || zany zsam l') = false := hsam
      simp only [Bool.or_eq_false_iff, Bool.not_eq_false', decide_eq_false_iff_not] at hbad2 hsam2
      obtain ⟨⟨ta, tb⟩, hbad3⟩ := hbad2
      obtain ⟨hab, hsam3⟩ := hsam2
      have ha8 : a < 8 := by have := zt_lt ta; omega
      have hb8 : b < 8 := by have := zt_lt tb; omega
      have pa : zof m a 0 = 1 := by
        unfold zt at ta
        simp only [Bool.and_eq_true, decide_eq_true_eq] at ta
        exact ta.2
      have pb : zof m b 0 = 1 := by
        unfold zt at tb
        simp only [Bool.and_eq_true, decide_eq_true_eq] at tb
        exact tb.2
      have hK2 : zKt h (zup h1 76 15 (nI (j + 1))) := zKt_up p1 (by omega) (by omega) _
      have hV2 := zKt_V hK2 hV
      obtain ⟨h3, q1, q2, q3⟩ := zm_laysK hV2 hI ha8 hb8 hab g4
      have start : zr_28 115 [some (.inr 76), some (.inl (nI N)), d2, some (.inl (nI i))] [] h = zr_28 115 [some (.inr 76), some (.inl (nI N)), d2, some (.inl (nI (i + 1)))] [] h3 := by
        rw [zb_28_115, zS_cge (by omega) (by omega), decide_eq_false (by omega), if_neg (by decide), r1]
        simp only [Option.bind_some, zpush]
        rw [zb_28_124, r2.2.2.2.1, zS_add, zS_zup_nk _ _ (by omega), zS_zup_nk _ _ (by omega), zS_zup_nk _ _ (by omega), r3, r4, r5, q1]
        simp only [Option.bind_some, zpush]
        rw [zb_28_151, zS_add]
      have hI2 : zI (zly m a b n) := zI_ly hI ha8 hb8 hab g4 (fun _ => ⟨pa, pb⟩)
      have hlo3 : zlo h h3 := zlo_tr (zKt_lo hK2) (fun c hc x => q3 c x (by omega))
      rcases hl2 with rfl | ⟨hl2, hj⟩
      · refine ⟨h3, ?_, q2, hlo3, hI2⟩
        rw [start, zb_28_115, zS_cge (by simp at hi; omega) (by omega), decide_eq_true (by simp at hi; omega), if_pos rfl]
      · have hT3 : zTx h3 tx (j + 1) := zTx_k7 q3 (zTx_at hT hK2 (zS_zup_same _ _ _ _) hj)
        obtain ⟨h', w1, w2, w3, w4⟩ := ih (j + 1) (i + 1) l' (zly m a b n) h3 d2 hl2 (by omega) hT3 q2 hI2 (by
          rw [← hbad3]
          exact zany_congr (fun x => by unfold zbad2; rw [zt_ly hI.1 ha8 hb8, zt_ly hI.1 ha8 hb8]) l') hsam3
        exact ⟨h', start.trans w1, w2, zlo_tr hlo3 w3, w4⟩
def zoRead (m : Nat → Nat) (tx : List Nat) : Int32 × Option (Nat → Nat) := match zpl tx 61 0 with
  | .inl j => ((-100) - nI j, none)
  | .inr l => if zany (zbad2 m) l = true then (-1, none) else if zany zsam l = true then (-2, none) else (nI l.length, some (zput m l))
theorem zm_read {h : zHp} {m : Nat → Nat} {hs : List (Nat → Nat)} {sn : Option (Nat → Nat)} {tx : List Nat} (hV : zMV h m hs sn tx) (hI : zI m) (hch : ∀ x, x ∈ tx → x < 65536) : zAns (zM_28 [.inr 76]) (zoRead m tx) h m hs sn tx ∧ ∀ m', (zoRead m tx).2 = some m' → zI m' := by
  have hR := hV.1
  have hB := hI.1
  have hK0 : zKt h (zup h 76 15 (nI 0)) := zKt_up (zKt_rf h) (by omega) (by omega) _
  have hT0 : zTx (zup h 76 15 (nI 0)) tx 0 := by
    obtain ⟨d1, d2, d3⟩ := hV.2.2.2.1
    refine ⟨by rw [hK0 76 13 (by omega), d1], d2, fun j hj => ?_, zS_zup_same _ _ _ _, by omega⟩
    have hj2 : tx[j]? = some tx[j] := List.getElem?_eq_getElem hj
    have hz : zg tx j = tx[j] := by
      unfold zg
      rw [hj2]
      rfl
    rw [hK0 83 j (by omega), hz]
    exact ⟨d3 j _ hj2, hch _ (List.getElem_mem hj)⟩
  have t2 := hT0.2.1
  obtain ⟨h1, p1, p2⟩ := zm_bt1 61 0 0 _ (by omega) (by omega) hT0
  have e1 := ze_28 h
  rw [ze_27] at e1
  unfold zoRead
  cases hl : zpl tx 61 0 with
  | inl j =>
    rw [hl] at p2
    rw [p2.1] at e1
    simp only [Option.bind_some, zpush] at e1
    rw [zb_28_4, zS_ne55, if_neg (by decide), p2.2.2.2.2.1] at e1
    exact ⟨⟨h1, e1, zKt_V (zKt_tr hK0 p1) hV, zKt_lo (zKt_tr hK0 p1)⟩, fun m' hm => by cases hm⟩
  | inr l =>
    rw [hl] at p2
    dsimp only at p2 ⊢
    have hln := (zpl_len _ _ _ hl).1
    rw [p2, Nat.zero_add] at e1
    simp only [Option.bind_some, zpush] at e1
    rw [zb_28_4, zS_ne5 (by omega), if_pos rfl] at e1
    have hK1 : zKt h (zup h1 76 15 (nI 0)) := zKt_up (zKt_tr hK0 p1) (by omega) (by omega) _
    have hT1 : zTx (zup h1 76 15 (nI 0)) tx 0 := zTx_at hT0 (zKt_up p1 (by omega) (by omega) _) (zS_zup_same _ _ _ _) (by omega)
    obtain ⟨h2, q1, q2⟩ := zm_rd1 hB (N := l.length) (by omega) 61 0 0 false l _ hl (by omega) hT1 (zKt_R hK1 hR)
    have q2 : zr_28 28 [some (.inr 76), some (.inl (nI l.length)), some (.inl (nI 0)), some (.inl (nI 0))] [] (zup h1 76 15 (nI 0)) = _ := q2
    rw [q2] at e1
    have hK2 := zKt_tr hK1 q1
    cases h5 : zany (zbad2 m) l with
    | true =>
      rw [h5, if_pos rfl] at e1
      rw [if_pos rfl]
      exact ⟨⟨h2, e1, zKt_V hK2 hV, zKt_lo hK2⟩, fun m' hm => by cases hm⟩
    | false =>
      rw [h5, if_neg (by decide), Bool.false_or, zb_28_28, zS_cge (by omega) (by omega), decide_eq_true (Nat.le_refl _), if_pos rfl, zS_b0] at e1
      rw [if_neg (by decide)]
      cases h6 : zany zsam l with
      | true =>
        rw [h6, if_neg (by decide)] at e1
        rw [if_pos rfl]
        exact ⟨⟨h2, e1, zKt_V hK2 hV, zKt_lo hK2⟩, fun m' hm => by cases hm⟩
      | false =>
        have hV2 := zKt_V hK2 hV
        obtain ⟨h3, r1, r2, r3, r4⟩ := zm_recK hV2
        rw [h6, if_pos (by decide), r1] at e1
        simp only [Option.bind_some, zpush] at e1
        rw [zb_28_108] at e1
        rw [if_neg (by decide)]
        have hV3 : zMV (zup h3 76 15 (nI 0)) m (zph hs m) sn tx := zKt_V (zKt_up (zKt_rf h3) (by omega) (by omega) _) r2
        have hT3 : zTx (zup h3 76 15 (nI 0)) tx 0 := by
          obtain ⟨t1, t2, t3, t4, t5⟩ := hT1
          have hz : ∀ b j, b ≠ 78 → ¬ (b = 76 ∧ j = 2) → ¬ (b = 76 ∧ 15 ≤ j ∧ j ≤ 18) → (zup h3 76 15 (nI 0)) b j = (zup h1 76 15 (nI 0)) b j := fun b j c1 c2 c3 => by
            have : zup h3 76 15 (nI 0) b j = h3 b j := by
              unfold zup
              rw [if_neg (by omega)]
            rw [this, r4 b j c1 c2, q1 b j c3]
          exact ⟨by rw [hz _ _ (by omega) (by omega) (by omega), t1], t2, fun j hj => by rw [hz _ _ (by omega) (by omega) (by omega)]; exact t3 j hj, zS_zup_same _ _ _ _, by omega⟩
        obtain ⟨h4, s1, s2, s3, s4⟩ := zm_rd2 (N := l.length) (by omega) 61 0 0 l m _ (some (.inl (nI (zany zsam l).toNat))) hl (by omega) hT3 hV3 hI h5 h6
        rw [h6] at s1
        rw [s1] at e1
        exact ⟨⟨h4, e1, s2, zlo_tr (zKt_lo hK2) (zlo_tr r3 (zlo_tr (zlo_up (zlo_rf h3) (by omega) _ _) s3))⟩, fun m' hm => by cases hm; exact s4⟩
