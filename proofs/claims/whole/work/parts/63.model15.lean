/-! join. -/
theorem zjl_ok {c o : Nat} (hc : c < 8) (ho : o < 8) (hco : c ≠ o) : ∀ (n p : Nat) (m : Nat → Nat), znb m - p + 2 * znf m c < n → zI m → zln m c o = 0 → zof m o 0 = 1 → p ≤ znb m → (∀ j, j < p → zthird m j c = 9) → zI (zjl c o n p m) ∧ (∀ k, k < 40 → zjl c o n p m k = m k) ∧ (∀ t, t < 8 → zln (zjl c o n p m) c t = 0) := by
  intro n
  induction n with
  | zero => intro p m hn; omega
  | succ n ih =>
    intro p m hn hI h0 to hp hpre
    unfold zjl
    by_cases h1 : znb m ≤ p
    · rw [if_pos h1]
      refine ⟨hI, fun _ _ => rfl, fun t ht => ?_⟩
      cases Nat.eq_zero_or_pos (zln m c t) with
      | inl a => exact a
      | inr a =>
        have hct : c ≠ t := by
          intro e
          subst e
          have := hI.2.2.2.2.1 c hc
          omega
        obtain ⟨lo, hi, q1, q2, q3, q4⟩ := zcd_lh hc ht hct
        obtain ⟨hB, i1, i2, i3, i4, i5, i6, o1, o2, o3⟩ := hI
        have hpos : 0 < zln m lo hi := by
          rcases q4 with ⟨rfl, rfl⟩ | ⟨rfl, rfl⟩
          · exact a
          · rw [i3 _ _ (by omega) (by omega)]; exact a
        obtain ⟨k, r1, r2⟩ := o3 lo hi q1 q2 hpos
        have h9 := hpre k (by omega)
        unfold zthird at h9
        rw [show zod m k / 10 = lo by omega, show zod m k % 10 = hi by omega] at h9
        split at h9
        · omega
        · split at h9 <;> omega
    · rw [if_neg h1]
      by_cases h9 : zthird m p c = 9
      · rw [if_pos h9]
        exact ih (p + 1) m (by omega) hI h0 to (by omega) (fun j hj => by
          by_cases hjp : j = p
          · rw [hjp]; exact h9
          · exact hpre j (by omega))
      · rw [if_neg h9]
        obtain ⟨w1, w2, w3, w4, w5, w6, w7, w8⟩ := zmov_ok hI hc ho hco h0 to (show p < znb m by omega) h9
        obtain ⟨q4, q5, q6⟩ := ih p (zmov m c o (zthird m p c)) (by omega) w2 w4 ((w3 (5 * o + 0) (by omega)).trans to) w6 (fun j hj => by
          rw [zthird_od (w7 j hj)]
          exact hpre j hj)
        exact ⟨q4, fun k hk => (q5 k hk).trans (w3 k hk), q6⟩
theorem znf_le (m : Nat → Nat) (c : Nat) : znf m c ≤ 8 := zbits_le _
/-- the row after the borders have moved over -/
def zjr (m : Nat → Nat) (c o : Nat) : Nat → Nat := zjl c o 60 0 (zly m c o 0)
theorem zjr_ok {m : Nat → Nat} (hI : zI m) {c o : Nat} (hc : c < 8) (ho : o < 8) (hco : c ≠ o) (to : zof m o 0 = 1) : zI (zly m c o 0) ∧ zI (zjr m c o) ∧ (∀ k, k < 40 → zjr m c o k = m k) ∧ (∀ t, t < 8 → zln (zjr m c o) c t = 0) := by
  have hn := zB_nb hI.1
  have hI2 : zI (zly m c o 0) := zI_ly hI hc ho hco (by omega) (fun a => by omega)
  have hn2 := zB_nb hI2.1
  have h40 : ∀ k, k < 40 → zly m c o 0 k = m k := fun k hk => zly_un hc ho hn (by omega)
  have := znf_le (zly m c o 0) c
  obtain ⟨a, b, d⟩ := zjl_ok hc ho hco 60 0 (zly m c o 0) (by omega) hI2 (by rw [zly_ln hc ho hc ho, if_pos (Or.inl ⟨rfl, rfl⟩)]) ((h40 (5 * o + 0) (by omega)).trans to) (by omega) (fun j hj => by omega)
  exact ⟨hI2, a, fun k hk => (b k hk).trans (h40 k hk), d⟩
def zmJoin (m : Nat → Nat) (c o : Nat) : Nat → Nat := zu (zu (zu (zjr m c o) (5 * o + 3) (zcap (zof m c 3 + zof m o 3))) (5 * o + 2) (zof m c 2 &&& zof m o 2)) (5 * c + 0) 0
theorem zI_gone {m : Nat → Nat} (h : zI m) {c : Nat} (hc : c < 8) (hf : zof m c 4 ≠ 1) (hl : ∀ t, t < 8 → zln m c t = 0) : zI (zu m (5 * c + 0) 0) := by
  obtain ⟨⟨b1, b2, b3, b4, b5⟩, i1, i2, i3, i4, i5, i6, hO⟩ := h
  have hof : ∀ d w, w < 5 → zof (zu m (5 * c + 0) 0) d w = if d = c ∧ w = 0 then 0 else zof m d w := fun d w hw => zof_u _ hc (by omega) hw
  have hln : ∀ a b, zln (zu m (5 * c + 0) 0) a b = zln m a b := fun a b => zln_u _ (by omega) a b
  have hbd : ∀ a b, zbd (zu m (5 * c + 0) 0) a b = zbd m a b := fun a b => zbd_u _ (by omega) a b
  have hev : zev8 (zu m (5 * c + 0) 0) = zev8 m := zev_u _ (by omega)
  have hnb : znb (zu m (5 * c + 0) 0) = znb m := znb_u _ (by omega)
  refine ⟨⟨by omega, by omega, fun d hd => ?_, fun a b ha hb => by rw [hln]; exact b4 a b ha hb, fun a b ha hb => by rw [hbd]; exact b5 a b ha hb⟩, fun d hd hq => ?_, fun d hd hq => ?_, fun a b ha hb => by rw [hln, hln]; exact i3 a b ha hb, fun a ha => by rw [hln]; exact i4 a ha, fun a b ha hb hq => ?_, fun a b ha hb => by rw [hbd, hbd]; exact i6 a b ha hb, zOd_u _ (by omega) hO⟩
  · rw [hof d 0 (by omega), hof d 1 (by omega), hof d 2 (by omega), hof d 3 (by omega), hof d 4 (by omega)]
    have := b3 d hd
    refine ⟨?_, ?_, ?_, ?_, ?_⟩
    · split <;> omega
    all_goals rw [if_neg (by omega)]; omega
  · rw [hev] at hq
    rw [hof d 0 (by omega)]
    split
    · rfl
    · exact i1 d hd hq
  · rw [hof d 4 (by omega), if_neg (by omega)] at hq
    rw [hof d 0 (by omega)]
    split
    · rename_i e
      rw [e.1] at hq
      exact absurd hq hf
    · exact i2 d hd hq
  · rw [hln] at hq
    rw [hof a 0 (by omega)]
    split
    · rename_i e
      rw [e.1, hl b hb] at hq
      omega
    · exact i5 a b ha hb hq
theorem zI_joinM {m : Nat → Nat} (h : zI m) {c o : Nat} (hc : c < 8) (ho : o < 8) (hco : c ≠ o) (to : zof m o 0 = 1) (fc : zof m c 4 ≠ 1) : zI (zmJoin m c o) := by
  obtain ⟨w1, w2, w3, w4⟩ := zjr_ok h hc ho hco to
  have h2 := zB_2 h.1 hc
  have hI1 := zI_field (c := o) (w := 3) (x := zcap (zof m c 3 + zof m o 3)) ho (by omega) (by omega) ⟨fun e => by omega, fun e => by omega, fun _ => zcap_le _, fun e => by omega⟩ w2
  have hI2 := zI_field (c := o) (w := 2) (x := zof m c 2 &&& zof m o 2) ho (by omega) (by omega) ⟨fun e => by omega, fun _ => Nat.le_trans Nat.and_le_left h2, fun e => by omega, fun e => by omega⟩ hI1
  refine zI_gone hI2 hc ?_ (fun t ht => ?_)
  · rw [zof_u _ ho (by omega) (by omega), if_neg (by omega), zof_u _ ho (by omega) (by omega), if_neg (by omega)]
    have : zof (zjr m c o) c 4 = zof m c 4 := w3 _ (by omega)
    rw [this]
    exact fc
  · rw [zln_u _ (by omega), zln_u _ (by omega)]
    exact w4 t ht
def zoJoin (m : Nat → Nat) (c o : Int32) : Int32 × Option (Nat → Nat) :=
  if zth m c = false then (-1, none) else if zth m o = false then (-1, none) else if c = o then (-2, none)
  else if zln m c.toNatClampNeg o.toNatClampNeg = 0 then (-4, none) else if zof m c.toNatClampNeg 4 = 1 then (-4, none) else if zof m o.toNatClampNeg 4 = 1 then (-4, none) else if zof m c.toNatClampNeg 2 &&& zof m o.toNatClampNeg 2 = 0 then (-4, none)
  else (nI (zbits (znbs (zmJoin m c.toNatClampNeg o.toNatClampNeg) o.toNatClampNeg)), some (zmJoin m c.toNatClampNeg o.toNatClampNeg))
theorem zI_join {m : Nat → Nat} (h : zI m) (c o : Int32) (m' : Nat → Nat) (hm : (zoJoin m c o).2 = some m') : zI m' := by
  unfold zoJoin at hm
  split at hm
  · cases hm
  rename_i h1
  split at hm
  · cases hm
  rename_i h2
  split at hm
  · cases hm
  rename_i h3
  split at hm
  · cases hm
  split at hm
  · cases hm
  rename_i h5
  split at hm
  · cases hm
  split at hm
  · cases hm
  cases hm
  have he := zB_ev h.1
  obtain ⟨n, hn, hn1, rfl⟩ := zth_of (c := c) (by simpa using h1)
  obtain ⟨k, hk, hk1, rfl⟩ := zth_of (c := o) (by simpa using h2)
  rw [zS_cl (by omega)] at h5
  rw [zS_cl (by omega), zS_cl (by omega)]
  exact zI_joinM h (by omega) (by omega) (fun e => h3 (by rw [e])) hk1 h5
theorem zm_join {h : zHp} {m : Nat → Nat} {hs : List (Nat → Nat)} {sn : Option (Nat → Nat)} {tx : List Nat} (hV : zMV h m hs sn tx) (hI : zI m) (c o : Int32) : zAns (zM_30 [.inr 76, .inl c, .inl o]) (zoJoin m c o) h m hs sn tx := by
  have hR := hV.1
  have hB := hI.1
  have he := zB_ev hB
  have e1 := ze_30 c o h
  rw [zm_no hR hB] at e1
  simp only [Option.bind_some, zpush] at e1
  rw [zb_30_5, zS_b0n] at e1
  unfold zoJoin
  cases h1 : zth m c with
  | false =>
    rw [h1, if_pos (by decide)] at e1
    exact zAns_no hV e1
  | true =>
  rw [h1, if_neg (by decide), zm_no hR hB] at e1
  simp only [Option.bind_some, zpush] at e1
  rw [zb_30_13, zS_b0, Bool.not_not] at e1
  rw [if_neg (by decide)]
  cases h2 : zth m o with
  | false =>
    rw [h2, if_neg (by decide)] at e1
    exact zAns_no hV e1
  | true =>
  rw [h2, if_pos rfl] at e1
  rw [if_neg (by decide)]
  obtain ⟨n, hn, hn1, rfl⟩ := zth_of h1
  obtain ⟨k, hk, hk1, rfl⟩ := zth_of h2
  have hn8 : n < 8 := by omega
  have hk8 : k < 8 := by omega
  rw [zS_cne (by omega) (by omega)] at e1
  by_cases h3 : n = k
  · rw [decide_eq_true h3, if_neg (by decide)] at e1
    rw [if_pos (show nI n = nI k by rw [h3])]
    exact zAns_no hV e1
  rw [decide_eq_false h3, if_pos (by decide), zm_of hR (by omega)] at e1
  rw [if_neg (show ¬ nI n = nI k by rw [zS_eq (by omega) (by omega)]; exact h3), zS_cl (show n < 2147483648 by omega), zS_cl (show k < 2147483648 by omega)]
  simp only [Option.bind_some, zpush] at e1
  rw [zb_30_32, zm_of hR (by omega)] at e1
  simp only [Option.bind_some, zpush] at e1
  rw [zb_30_38, zS_and, zm_len hR hn8 hk8] at e1
  simp only [Option.bind_some, zpush] at e1
  have l1 := zB_l hB hn8 hk8
  rw [zb_30_46, zS_ceq (by omega) (by omega)] at e1
  by_cases h4 : zln m n k = 0
  · rw [decide_eq_true h4, if_pos rfl] at e1
    rw [if_pos h4]
    exact zAns_no hV e1
  rw [decide_eq_false h4, if_neg (by decide), zm_of hR (by omega)] at e1
  rw [if_neg h4]
  simp only [Option.bind_some, zpush] at e1
  have f1 := zB_4 hB hn8
  have f2 := zB_4 hB hk8
  rw [zb_30_55, zS_ceq (by omega) (by omega)] at e1
  by_cases h5 : zof m n 4 = 1
  · rw [decide_eq_true h5, if_pos rfl] at e1
    rw [if_pos h5]
    exact zAns_no hV e1
  rw [decide_eq_false h5, if_neg (by decide), zm_of hR (by omega)] at e1
  rw [if_neg h5]
  simp only [Option.bind_some, zpush] at e1
  have a1 := zB_2 hB hn8
  have a2 : zof m n 2 &&& zof m k 2 ≤ 15 := Nat.le_trans Nat.and_le_left a1
  rw [zb_30_65, zS_ceq (by omega) (by omega), zS_cne (by omega) (by omega)] at e1
  by_cases h6 : zof m k 4 = 1
  · rw [decide_eq_true h6, if_pos rfl] at e1
    rw [if_pos h6]
    exact zAns_no hV e1
  rw [decide_eq_false h6, if_neg (by decide)] at e1
  rw [if_neg h6]
  by_cases h7 : zof m n 2 &&& zof m k 2 = 0
  · rw [decide_eq_true h7, if_neg (by decide)] at e1
    rw [if_pos h7]
    exact zAns_no hV e1
  rw [decide_eq_false h7, if_pos (by decide)] at e1
  rw [if_neg h7]
  obtain ⟨h', p1, p2, p3⟩ := zm_recV hV
  rw [p1] at e1
  simp only [Option.bind_some, zpush] at e1
  obtain ⟨h2', q1, q2, q3⟩ := zm_lays p2 hI hn8 hk8 h3 (show 0 ≤ 99 by omega)
  rw [zb_30_80, q1] at e1
  simp only [Option.bind_some, zpush] at e1
  rw [zb_30_87] at e1
  obtain ⟨w1, w2, w3, w4⟩ := zjr_ok hI hn8 hk8 h3 hk1
  have hnb := zB_nb w1.1
  have hnf := znf_le (zly m n k 0) n
  have hnn := zB_nb hB
  obtain ⟨h3', p', d5', d6', d7', r1, r2, r3, r4, r5, r6⟩ := zm_jl (c := n) (o := k) (both := zof m n 2 &&& zof m k 2) hn8 hk8 h3 60 0 (zly m n k 0) h2' none none none (by omega) q2 w1 (by rw [zly_ln hn8 hk8 hn8 hk8, if_pos (Or.inl ⟨rfl, rfl⟩)]) ((zly_un hn8 hk8 hnn (by omega) : zly m n k 0 (5 * k + 0) = m (5 * k + 0)).trans hk1) (by omega) (fun j hj => by omega)
  rw [r1] at e1
  have r2 : zMV h3' (zjr m n k) (zph hs m) sn tx := r2
  have k1 : zof (zjr m n k) n 3 = zof m n 3 := w3 _ (by omega)
  have k2 : zof (zjr m n k) k 3 = zof m k 3 := w3 _ (by omega)
  have g1 := zB_3 hB hn8
  have g2 := zB_3 hB hk8
  rw [zm_of r2.1 (by omega), k1] at e1
  simp only [Option.bind_some, zpush] at e1
  rw [zb_30_221, zm_of r2.1 (by omega), k2] at e1
  simp only [Option.bind_some, zpush] at e1
  rw [zb_30_227, zS_add, zS_cle (by omega) (by omega), zm_puts _ (by omega), zm_puts _ (by omega)] at e1
  simp only [Option.bind_some, zpush] at e1
  have hV3 := zMV_up r2 (5 * k + 3) (zcap (zof m n 3 + zof m k 3))
  have hV4 := zMV_up hV3 (5 * k + 2) (zof m n 2 &&& zof m k 2)
  have hV5 : zMV _ (zmJoin m n k) (zph hs m) sn tx := zMV_up hV4 (5 * n + 0) 0
  have hI5 := zI_joinM hI hn8 hk8 h3 hk1 h5
  have e2 : zM_30 [.inr 76, .inl (nI n), .inl (nI k)] h = zr_30 250 [some (.inr 76), some (.inl (nI n)), some (.inl (nI k)), some (.inl (nI (zof m n 2 &&& zof m k 2))), some (.inl (nI p')), some (.inl (nI (zof m n 3 + zof m k 3))), d6', d7'] [] (zup h3' 77 (5 * k + 3) (nI (zcap (zof m n 3 + zof m k 3)))) := by
    rw [e1]
    unfold zcap
    by_cases h8 : zof m n 3 + zof m k 3 ≤ 99
    · rw [decide_eq_true h8, if_pos (show true = true from rfl), if_pos h8]
    · rw [decide_eq_false h8, if_neg (by decide), if_neg h8]
  rw [zb_30_250, zm_puts _ (by omega)] at e2
  simp only [Option.bind_some, zpush] at e2
  rw [zb_30_257, zm_puts _ (by omega)] at e2
  simp only [Option.bind_some, zpush] at e2
  rw [zb_30_264, zm_nbs hV5.1 hI5.1 hk8] at e2
  simp only [Option.bind_some, zpush] at e2
  rw [zb_30_269, zm_bits _ (show znbs (zmJoin m n k) k < 256 from zset8_lt _ (zB_ev hI5.1))] at e2
  simp only [Option.bind_some, zpush] at e2
  rw [zb_30_272] at e2
  exact ⟨_, e2, hV5, zlo_tr p3 (zlo_tr q3 (zlo_up (zlo_up (zlo_up r3 (by omega) _ _) (by omega) _ _) (by omega) _ _))⟩
