/-! join of the class. -/
theorem zS_nem1 : ∀ t, t < 16 → zci .ne (nI t) (-1) = true := by decide +kernel
def zfr1 (c : Nat) (L : List Nat) : Int32 := match zfst c L with
  | none => -1
  | some z => nI (zth3 c z)
theorem zfr1_cons (c z : Nat) (L : List Nat) : zfr1 c (z :: L) = if zinc2 c z = true then nI (zth3 c z) else zfr1 c L := by
  unfold zfr1 zfst
  rw [List.find?_cons]
  cases zinc2 c z <;> rfl
theorem zn_first1 {h : zHp} {m : Nat → Nat} (hS : zSr h 1 m) (hI : zI m) {c : Nat} (hc : c < 8) : ∀ (n k : Nat), k + n = znb m → zr_98 2 [some (.inr 6), some (.inl (nI c)), some (.inl (nI k))] [] h = some (some (zfr1 c ((List.range' k n).map (zod m))), h) := by
  have hn := zB_nb hI.1
  have h6 : h 6 0 = nI (znb m) := hS.2.2.2.1
  intro n
  induction n with
  | zero =>
    intro k hk
    rw [zb_98_2, h6, zS_cge (by omega) (by omega), decide_eq_true (by omega), if_pos rfl]
    rfl
  | succ n ih =>
    intro k hk
    obtain ⟨lo, hi, p1, p2, p3, p4, q1, q2, q3, p5, t1, t2⟩ := zSr_at hS hI (show k < znb m by omega)
    rw [List.range'_succ, List.map_cons, zfr1_cons, zb_98_2, h6, zS_cge (by omega) (by omega), decide_eq_false (by omega), if_neg (by decide), zS_ib _ (show k < 2147483648 by omega), decide_eq_true (show k < 28 by omega), if_pos rfl, if_pos rfl, if_pos rfl, if_pos rfl, zS_cl (show k < 2147483648 by omega), q1, q2, zS_cne (by omega) (by omega), zS_cne (by omega) (by omega), zS_add, ih (k + 1) (by omega)]
    unfold zinc2 zth3
    rw [p3, p4]
    by_cases h1 : lo = c
    · rw [decide_eq_true h1, if_neg (by decide), if_pos h1, Bool.true_or, if_pos rfl]
    · rw [decide_eq_false h1, if_pos (by decide), if_neg h1, Bool.false_or]
      by_cases h2 : hi = c
      · rw [decide_eq_true h2, if_neg (by decide), if_pos rfl]
      · rw [decide_eq_false h2, if_pos (by decide), if_neg (by decide)]
theorem zn_first {h : zHp} {m : Nat → Nat} (hS : zSr h 1 m) (hI : zI m) {c : Nat} (hc : c < 8) : zM_98 [.inr 6, .inl (nI c)] h = some (some (zfr1 c (zol m)), h) := by
  rw [ze_98, zn_first1 hS hI hc (znb m) 0 (by omega), ← List.range_eq_range']
  rfl
/-- the end of merge -/
def zjT (c o : Nat) (h : zHp) : zHp := zup (zup (zup h 3 o (zand (h 3 o) (h 3 c))) 4 o (zmin (nI 99) (((zup h 3 o (zand (h 3 o) (h 3 c))) 4 o) + ((zup h 3 o (zand (h 3 o) (h 3 c))) 4 c)))) 1 1 (zand ((zup (zup h 3 o (zand (h 3 o) (h 3 c))) 4 o (zmin (nI 99) (((zup h 3 o (zand (h 3 o) (h 3 c))) 4 o) + ((zup h 3 o (zand (h 3 o) (h 3 c))) 4 c)))) 1 1) (zxor (zshl (nI 1) (nI c)) (-1)))
theorem zn_mrg1 {c o : Nat} (hc : c < 8) (ho : o < 8) (hco : c ≠ o) : ∀ (n i : Nat) (m : Nat → Nat) (h : zHp) (d4 d5 d6 : Option zV), i + n = 8 → zSr h 1 m → zI m → zof m o 0 = 1 → ∃ h', zr_99 2 [some (.inr 1), some (.inl (nI c)), some (.inl (nI o)), some (.inl (nI i)), d4, d5, d6] [] h = some (none, zjT c o h') ∧ zSr h' 1 (zcj c o n m) ∧ ∀ x j, x < 6 ∨ 10 ≤ x → h' x j = h x j := by
  intro n
  induction n with
  | zero =>
    intro i m h d4 d5 d6 hi hS hI to
    refine ⟨h, ?_, hS, fun _ _ _ => rfl⟩
    rw [zb_99_2, zS_cge (by omega) (by omega), decide_eq_true (by omega), if_pos rfl, zS_ib _ (show o < 2147483648 by omega), zS_ib _ (show c < 2147483648 by omega), decide_eq_true ho, decide_eq_true hc, if_pos rfl, if_pos rfl, if_pos rfl, if_pos rfl, if_pos rfl, if_pos rfl, zS_cl (show o < 2147483648 by omega), zS_cl (show c < 2147483648 by omega)]
    rfl
  | succ n ih =>
    intro i m h d4 d5 d6 hi hS hI to
    have hn := zB_nb hI.1
    have start := zb_99_2 (nI c) (nI o) (nI i) d4 d5 d6 h
    rw [zS_cge (by omega) (by omega), decide_eq_false (by omega), if_neg (by decide), zn_first hS hI hc] at start
    simp only [Option.bind_some, zpush] at start
    rw [zb_99_16] at start
    cases hz : zfst c (zol m) with
    | none =>
      have e1 : zcj c o (n + 1) m = m := by
        unfold zcj
        rw [hz]
      have e2 : zfr1 c (zol m) = -1 := by
        unfold zfr1
        rw [hz]
      rw [e1]
      refine ⟨h, ?_, hS, fun _ _ _ => rfl⟩
      rw [e2, if_neg (by decide), zS_ib _ (show o < 2147483648 by omega), zS_ib _ (show c < 2147483648 by omega), decide_eq_true ho, decide_eq_true hc, if_pos rfl, if_pos rfl, if_pos rfl, if_pos rfl, if_pos rfl, if_pos rfl, zS_cl (show o < 2147483648 by omega), zS_cl (show c < 2147483648 by omega)] at start
      rw [start]
      rfl
    | some z =>
      have e1 : zcj c o (n + 1) m = zcj c o n (if zth3 c z = o then zly m c o 0 else zmov m c o (zth3 c z)) := by
        show (match zfst c (zol m) with
          | none => m
          | some z => zcj c o n (if zth3 c z = o then zly m c o 0 else zmov m c o (zth3 c z))) = _
        rw [hz]
      have e2 : zfr1 c (zol m) = nI (zth3 c z) := by
        unfold zfr1
        rw [hz]
      rw [e1]
      obtain ⟨hzi, as, bs, hL, has⟩ := List.find?_eq_some_iff_append.mp hz
      obtain ⟨k, hk, hkz⟩ := zol_mem.mp (show z ∈ zol m by rw [hL]; simp)
      rw [← hkz] at hzi
      obtain ⟨t1, t2, t3, t4, t5⟩ := zinc_I hI hc hk hzi
      rw [hkz] at t1 t2 t3 t4 t5
      rw [e2] at start
      generalize zth3 c z = t at t1 t2 t3 t4 t5 start ⊢
      have bl := zB_l hI.1 hc t1
      have bl2 := zB_l hI.1 ho t1
      obtain ⟨g, g1, g2, g3⟩ := zn_put (len := 0) hS hI hc t1 t2 (by omega)
      rw [zS_nem1 t (by omega), if_pos rfl, zn_len hS hI hc t1 t2] at start
      simp only [Option.bind_some, zpush] at start
      rw [zb_99_37, g1] at start
      simp only [Option.bind_some, zpush] at start
      rw [zb_99_50, zS_ceq (by omega) (by omega)] at start
      by_cases hto : t = o
      · rw [decide_eq_true hto, if_pos rfl, zb_99_88, zS_add] at start
        rw [if_pos hto]
        have hI2 : zI (zly m c t 0) := zI_ly hI hc t1 t2 (by omega) (fun a => by omega)
        rw [hto] at g2 hI2
        obtain ⟨h', r1, r2, r3⟩ := ih (i + 1) (zly m c o 0) g (some (.inl (nI t))) (some (.inl (nI (zln m c t)))) d6 (by omega) g2 hI2 ((zly_un hc ho hn (by omega)).trans to)
        exact ⟨h', start.trans r1, r2, fun x j hx => (r3 x j hx).trans (g3 x j hx)⟩
      · obtain ⟨hI2, hI3, h40⟩ := zI_mov hI hc ho t1 t2 (fun e => hto e.symm) to t5
        have v3 : zln (zly m c t 0) o t = zln m o t := by rw [zly_ln hc t1 ho t1, if_neg (by omega)]
        obtain ⟨g', g4, g5, g6⟩ := zn_put (len := zcap (zln m o t + zln m c t)) g2 hI2 ho t1 (fun e => hto e.symm) (zcap_le _)
        rw [decide_eq_false hto, if_neg (by decide), zn_len g2 hI2 ho t1 (fun e => hto e.symm), v3] at start
        simp only [Option.bind_some, zpush] at start
        rw [zb_99_66, zS_add, zmin99 _ (by omega), g4] at start
        simp only [Option.bind_some, zpush] at start
        rw [zb_99_88, zS_add] at start
        rw [if_neg hto]
        have e3 : zly (zly m c t 0) o t (zcap (zln m o t + zln m c t)) = zmov m c o t := by
          unfold zmov
          rw [Nat.add_comm]
        rw [e3] at g5
        obtain ⟨h', r1, r2, r3⟩ := ih (i + 1) (zmov m c o t) g' (some (.inl (nI t))) (some (.inl (nI (zln m c t)))) (some (.inl (nI (zln m o t + zln m c t)))) (by omega) g5 hI3 ((h40 (5 * o + 0) (by omega)).trans to)
        exact ⟨h', start.trans r1, r2, fun x j hx => (r3 x j hx).trans ((g6 x j hx).trans (g3 x j hx))⟩
theorem zu_com (m : Nat → Nat) {i j : Nat} (h : i ≠ j) (x y : Nat) : zu (zu m i x) j y = zu (zu m j y) i x := by
  funext k
  unfold zu
  by_cases h1 : k = j
  · rw [if_pos h1, if_neg (by omega), if_pos h1]
  · rw [if_neg h1, if_neg h1]
theorem zSr_gone {h : zHp} {m : Nat → Nat} (hS : zSr h 1 m) (hB : zB m) {c : Nat} (hc : c < 8) (hf : zof m c 4 ≠ 1) : zSr (zup h 1 1 (nI (zst m 0 &&& (255 ^^^ 2 ^ c)))) 1 (zu m (5 * c + 0) 0) := by
  obtain ⟨⟨s1, s2, s3⟩, s4, s5, s6, s7⟩ := hS
  have hof : ∀ d x, x < 5 → zof (zu m (5 * c + 0) 0) d x = if d = c ∧ x = 0 then 0 else zof m d x := fun d x hx => zof_u _ hc (by omega) hx
  have hev : zev8 (zu m (5 * c + 0) 0) = zev8 m := zev_u _ (by omega)
  have htt : ∀ d, zt (zu m (5 * c + 0) 0) d = (zt m d && !decide (d = c)) := fun d => by
    unfold zt
    rw [hev, hof d 0 (by omega)]
    by_cases hd : d = c
    · rw [if_pos ⟨hd, rfl⟩, decide_eq_true hd]
      simp
    · rw [if_neg (fun e => hd e.1), decide_eq_false hd]
      simp
  have hst0 : zst (zu m (5 * c + 0) 0) 0 = zst m 0 &&& (255 ^^^ 2 ^ c) := by
    apply Nat.eq_of_testBit_eq
    intro i
    rw [zclr_bit (zst_lt (zB_ev hB) 0), zst_bit, zst_bit, htt, Nat.testBit_two_pow]
    by_cases hi : i = c
    · rw [decide_eq_true hi, decide_eq_true hi.symm]
    · rw [decide_eq_false hi, decide_eq_false (fun e => hi e.symm)]
  have hst1 : zst (zu m (5 * c + 0) 0) 1 = zst m 1 := by
    apply Nat.eq_of_testBit_eq
    intro i
    rw [zst1_bit, zst1_bit, htt, hof i 4 (by omega), if_neg (show ¬ (i = c ∧ 4 = 0) by omega)]
    by_cases hi : i = c
    · rw [hi, decide_eq_false hf]
      simp
    · rw [decide_eq_false hi]
      simp
  have hod : ∀ k, zod (zu m (5 * c + 0) 0) k = zod m k := fun k => zod_u _ (by omega) k
  have hz : ∀ x j, x ≠ 1 ∨ j ≠ 1 → zup h 1 1 (nI (zst m 0 &&& (255 ^^^ 2 ^ c))) x j = h x j := fun x j hx => by
    unfold zup
    rw [if_neg (by omega)]
  refine ⟨⟨by rw [hz _ _ (by omega), s1, hev], by rw [zS_zup_same, hst0], by rw [hz _ _ (by omega), s3, hst1]⟩, fun d hd htd => ?_, fun a ha => ?_, by rw [hz _ _ (by omega), s6, znb_u _ (by omega)], fun k hk => ?_⟩
  · rw [htt] at htd
    simp only [Bool.and_eq_true] at htd
    obtain ⟨x1, x2, x3⟩ := s4 d hd htd.1
    rw [hof d 1 (by omega), hof d 2 (by omega), hof d 3 (by omega), if_neg (show ¬ (d = c ∧ 1 = 0) by omega), if_neg (show ¬ (d = c ∧ 2 = 0) by omega), if_neg (show ¬ (d = c ∧ 3 = 0) by omega)]
    exact ⟨by rw [hz _ _ (by omega)]; exact x1, by rw [hz _ _ (by omega)]; exact x2, by rw [hz _ _ (by omega)]; exact x3⟩
  · have : zfbs (zu m (5 * c + 0) 0) a = zfbs m a := by
      unfold zfbs
      congr 1
      funext x
      rw [zbd_u _ (by omega)]
    rw [this, hz _ _ (by omega)]
    exact s5 a ha
  · rw [znb_u _ (by omega)] at hk
    obtain ⟨x1, x2, x3⟩ := s7 k hk
    rw [hod, zln_u _ (by omega)]
    exact ⟨by rw [hz _ _ (by omega)]; exact x1, by rw [hz _ _ (by omega)]; exact x2, by rw [hz _ _ (by omega)]; exact x3⟩
theorem zn_mrg {h : zHp} {m : Nat → Nat} (hS : zSr h 1 m) (hI : zI m) {c o : Nat} (hc : c < 8) (ho : o < 8) (hco : c ≠ o) (tc : zt m c = true) (to : zt m o = true) (fc : zof m c 4 ≠ 1) : ∃ g, zM_99 [.inr 1, .inl (nI c), .inl (nI o)] h = some (none, g) ∧ zSr g 1 (zmJoin m c o) ∧ ∀ x j, x < 1 ∨ 10 ≤ x → g x j = h x j := by
  have toc : zof m c 0 = 1 := by
    have := tc
    unfold zt at this
    simp only [Bool.and_eq_true, decide_eq_true_eq] at this
    exact this.2
  have too : zof m o 0 = 1 := by
    have := to
    unfold zt at this
    simp only [Bool.and_eq_true, decide_eq_true_eq] at this
    exact this.2
  obtain ⟨h', r1, r2, r3⟩ := zn_mrg1 hc ho hco 8 0 m h none none none (by omega) hS hI too
  obtain ⟨j1, j2⟩ := zcj_jr hI hc ho hco too
  have hJ := zSr_qv r2 j2 j1
  obtain ⟨hA, hIJ, h40, hc0⟩ := zjr_ok hI hc ho hco too
  have heJ := zB_ev hIJ.1
  have he := zB_ev hI.1
  have hev : zev8 (zjr m c o) = zev8 m := by
    have e1 : h' 1 0 = nI (zev8 (zjr m c o)) := hJ.1.1
    rw [r3 1 0 (by omega), show h 1 0 = nI (zev8 m) from hS.1.1] at e1
    exact ((nI_eq (show zev8 m < 2147483648 by omega) (show zev8 (zjr m c o) < 2147483648 by omega)).mp e1).symm
  have hof : ∀ d w, d < 8 → w < 5 → zof (zjr m c o) d w = zof m d w := fun d w hd hw => h40 _ (by omega)
  have tJ : ∀ d, d < 8 → zt (zjr m c o) d = zt m d := fun d hd => by
    unfold zt
    rw [hev, hof d 0 hd (by omega)]
  generalize hJe : zjr m c o = J at hJ hIJ h40 hc0 heJ hev hof tJ
  obtain ⟨b0, b1, b2, b3, b4⟩ := hI.1.2.2.1 c hc
  obtain ⟨a0, a1, a2, a3, a4⟩ := hI.1.2.2.1 o ho
  have v3o : h' 3 o = nI (zof m o 2) := by rw [← hof o 2 ho (by omega)]; exact (hJ.2.1 o ho (by rw [tJ o ho, to])).2.1
  have v3c : h' 3 c = nI (zof m c 2) := by rw [← hof c 2 hc (by omega)]; exact (hJ.2.1 c hc (by rw [tJ c hc, tc])).2.1
  have v4o : h' 4 o = nI (zof m o 3) := by rw [← hof o 3 ho (by omega)]; exact (hJ.2.1 o ho (by rw [tJ o ho, to])).2.2
  have v4c : h' 4 c = nI (zof m c 3) := by rw [← hof c 3 hc (by omega)]; exact (hJ.2.1 c hc (by rw [tJ c hc, tc])).2.2
  have S1 : zSr (zup h' 3 o (nI (zof m o 2 &&& zof m c 2))) 1 (zu J (5 * o + 2) (zof m o 2 &&& zof m c 2)) := zSr_fld hJ (w := 2) ho (by omega) (by omega)
  have S2 : zSr (zup (zup h' 3 o (nI (zof m o 2 &&& zof m c 2))) 4 o (nI (zcap (zof m o 3 + zof m c 3)))) 1 (zu (zu J (5 * o + 2) (zof m o 2 &&& zof m c 2)) (5 * o + 3) (zcap (zof m o 3 + zof m c 3))) := zSr_fld S1 (w := 3) ho (by omega) (by omega)
  have hA15 : zof m o 2 &&& zof m c 2 ≤ 15 := Nat.le_trans Nat.and_le_left a2
  have hIJ1 : zI (zu J (5 * o + 2) (zof m o 2 &&& zof m c 2)) := zI_field ho (by omega) (by omega) ⟨by omega, fun _ => hA15, by omega, by omega⟩ hIJ
  have hIJ2 : zI (zu (zu J (5 * o + 2) (zof m o 2 &&& zof m c 2)) (5 * o + 3) (zcap (zof m o 3 + zof m c 3))) := zI_field ho (by omega) (by omega) ⟨by omega, by omega, fun _ => zcap_le _, by omega⟩ hIJ1
  have f2 : zof (zu (zu J (5 * o + 2) (zof m o 2 &&& zof m c 2)) (5 * o + 3) (zcap (zof m o 3 + zof m c 3))) c 4 ≠ 1 := by
    rw [zof_u _ ho (by omega) (by omega), if_neg (by omega), zof_u _ ho (by omega) (by omega), if_neg (by omega), hof c 4 hc (by omega)]
    exact fc
  have S3 := zSr_gone S2 hIJ2.1 hc f2
  have eT : zjT c o h' = zup (zup (zup h' 3 o (nI (zof m o 2 &&& zof m c 2))) 4 o (nI (zcap (zof m o 3 + zof m c 3)))) 1 1 (nI (zst (zu (zu J (5 * o + 2) (zof m o 2 &&& zof m c 2)) (5 * o + 3) (zcap (zof m o 3 + zof m c 3))) 0 &&& (255 ^^^ 2 ^ c))) := by
    unfold zjT
    rw [v3o, v3c, zS_and, zS_zup_ne h' (show (4 : Nat) ≠ 3 by omega), zS_zup_ne h' (show (4 : Nat) ≠ 3 by omega), v4o, v4c, zS_add, zmin99 _ (by omega), S2.1.2.1, zS_shl1 _ (by omega), zS_clr _ (zst_lt (zB_ev hIJ2.1) 0)]
  have eJ : zmJoin m c o = zu (zu (zu J (5 * o + 2) (zof m o 2 &&& zof m c 2)) (5 * o + 3) (zcap (zof m o 3 + zof m c 3))) (5 * c + 0) 0 := by
    unfold zmJoin
    rw [hJe, zu_com J (show 5 * o + 3 ≠ 5 * o + 2 by omega), Nat.and_comm (zof m c 2), Nat.add_comm (zof m c 3)]
  rw [eT] at r1
  refine ⟨_, (ze_99 (nI c) (nI o) h).trans r1, by rw [eJ]; exact S3, fun x j hx => ?_⟩
  rw [zS_zup_ne _ (by omega), zS_zup_ne _ (by omega), zS_zup_ne _ (by omega), r3 x j (by omega)]
def zcan (m : Nat → Nat) (c o : Nat) : Bool := decide (0 < zln m c o) && (!decide (zof m c 4 = 1) && (!decide (zof m o 4 = 1) && !decide (zof m c 2 &&& zof m o 2 = 0)))
theorem zn_can {h : zHp} {m : Nat → Nat} (hS : zSr h 1 m) (hI : zI m) {c o : Nat} (hc : c < 8) (ho : o < 8) (hco : c ≠ o) (tc : zt m c = true) (to : zt m o = true) : zM_97 [.inr 0, .inl (nI c), .inl (nI o)] h = some (some (nI (zcan m c o).toNat), h) := by
  have bl := zB_l hI.1 hc ho
  have b2 := zB_2 hI.1 hc
  have hA15 : zof m c 2 &&& zof m o 2 ≤ 15 := Nat.le_trans Nat.and_le_left b2
  have v3o : h 3 o = nI (zof m o 2) := (hS.2.1 o ho to).2.1
  have v3c : h 3 c = nI (zof m c 2) := (hS.2.1 c hc tc).2.1
  rw [ze_97, zn_len hS hI hc ho hco]
  simp only [Option.bind_some, zpush]
  rw [zb_97_12, zS_cle (by omega) (by omega), zS_bo0]
  unfold zcan
  by_cases h1 : 0 < zln m c o
  · rw [decide_eq_false (by omega), if_neg (by decide), decide_eq_true h1, zn_fixed hS hI.1 hc tc]
    simp only [Option.bind_some, zpush]
    rw [zb_97_23, zS_b0n, zS_bo0]
    cases h2 : decide (zof m c 4 = 1) with
    | true => rfl
    | false =>
      rw [if_neg (by decide), zn_fixed hS hI.1 ho to]
      simp only [Option.bind_some, zpush]
      rw [zb_97_34, zS_b0n, zS_bo0, zS_bo1]
      cases h3 : decide (zof m o 4 = 1) with
      | true => rfl
      | false =>
        rw [if_neg (by decide), zS_ib _ (show c < 2147483648 by omega), zS_ib _ (show o < 2147483648 by omega), decide_eq_true hc, decide_eq_true ho, if_pos rfl, if_pos rfl, zS_cl (show c < 2147483648 by omega), zS_cl (show o < 2147483648 by omega), v3c, v3o, zS_and, zS_ceq (by omega) (by omega)]
        cases decide (zof m c 2 &&& zof m o 2 = 0) <;> rfl
  · rw [decide_eq_true (by omega), if_pos rfl, if_pos rfl, decide_eq_false h1]
    rfl
theorem zn_join {h : zHp} {m : Nat → Nat} {hs : List (Nat → Nat)} {sn : Option (Nat → Nat)} {tx : List Nat} (hV : zCV h m hs sn tx) (hI : zI m) (c o : Int32) : zCAns (zM_100 [.inr 0, .inl c, .inl o]) (zoJoin m c o) h m hs sn tx := by
  have hS := hV.1
  have hB := hI.1
  have he := zB_ev hB
  have e1 := ze_100 c o h
  rw [zn_there hS hB] at e1
  simp only [Option.bind_some, zpush] at e1
  rw [zb_100_8, zS_b0] at e1
  have hI2 := zI_join hI c o
  unfold zoJoin at hI2 ⊢
  cases h1 : zth m c with
  | false =>
    rw [h1, if_pos (by decide)] at e1
    exact zCAns_no hV e1
  | true =>
  rw [h1, if_neg (by decide), zn_there hS hB] at e1
  simp only [Option.bind_some, zpush] at e1
  rw [zb_100_19, zS_b0n] at e1
  rw [h1, if_neg (by decide)] at hI2
  rw [if_neg (by decide)]
  cases h2 : zth m o with
  | false =>
    rw [h2, if_neg (by decide)] at e1
    exact zCAns_no hV e1
  | true =>
  obtain ⟨x, hx, hx1, rfl⟩ := zth_of h1
  obtain ⟨y, hy, hy1, rfl⟩ := zth_of h2
  have hx8 : x < 8 := by omega
  have hy8 : y < 8 := by omega
  have tx1 := zt_of hx hx1
  have ty1 := zt_of hy hy1
  rw [h2, if_pos rfl, zS_cne (by omega) (by omega)] at e1
  rw [h2, if_neg (by decide)] at hI2
  rw [if_neg (by decide)]
  by_cases h3 : x = y
  · rw [decide_eq_true h3, if_neg (by decide)] at e1
    rw [if_pos (by rw [h3])]
    exact zCAns_no hV e1
  rw [decide_eq_false h3, if_pos (by decide), zn_can hS hI hx8 hy8 h3 tx1 ty1] at e1
  simp only [Option.bind_some, zpush] at e1
  rw [zb_100_38, zS_b0n] at e1
  rw [if_neg (znI_ne (by omega) (by omega) h3), zS_cl (show x < 2147483648 by omega), zS_cl (show y < 2147483648 by omega)] at hI2
  rw [if_neg (znI_ne (by omega) (by omega) h3), zS_cl (show x < 2147483648 by omega), zS_cl (show y < 2147483648 by omega)]
  have hno : zcan m x y = false → zCAns (zM_100 [.inr 0, .inl (nI x), .inl (nI y)]) (-4, none) h m hs sn tx := fun hc => by
    rw [hc, if_neg (by decide)] at e1
    exact zCAns_no hV e1
  by_cases h4 : zln m x y = 0
  · rw [if_pos h4]
    exact hno (by unfold zcan; rw [decide_eq_false (show ¬ 0 < zln m x y by omega)]; rfl)
  rw [if_neg h4] at hI2 ⊢
  by_cases h5 : zof m x 4 = 1
  · rw [if_pos h5]
    exact hno (by unfold zcan; rw [decide_eq_true h5]; simp)
  rw [if_neg h5] at hI2 ⊢
  by_cases h6 : zof m y 4 = 1
  · rw [if_pos h6]
    exact hno (by unfold zcan; rw [decide_eq_true h6]; simp)
  rw [if_neg h6] at hI2 ⊢
  by_cases h7 : zof m x 2 &&& zof m y 2 = 0
  · rw [if_pos h7]
    exact hno (by unfold zcan; rw [decide_eq_true h7]; simp)
  rw [if_neg h7] at hI2 ⊢
  have hyes : zcan m x y = true := by
    unfold zcan
    rw [decide_eq_true (show 0 < zln m x y by omega), decide_eq_false h5, decide_eq_false h6, decide_eq_false h7]
    rfl
  obtain ⟨h', p1, p2, p3, p4⟩ := zn_remV hV hB
  rw [hyes, if_pos rfl, p1] at e1
  simp only [Option.bind_some, zpush] at e1
  obtain ⟨g, g1, g2, g3⟩ := zn_mrg p2.1 hI hx8 hy8 h3 tx1 ty1 h5
  have hI3 := hI2 _ rfl
  rw [zb_100_55, g1] at e1
  simp only [Option.bind_some, zpush] at e1
  rw [zb_100_64, zn_nbs g2 hI3 hy8] at e1
  simp only [Option.bind_some, zpush] at e1
  rw [zb_100_75, zn_bits _ (show znbs (zmJoin m x y) y < 256 from zset8_lt _ (zB_ev hI3.1))] at e1
  simp only [Option.bind_some, zpush] at e1
  rw [zb_100_78] at e1
  exact ⟨_, e1, zCV_now p2 g2 (fun b j hb => g3 b j (by omega)), fun b hb j => by rw [g3 b j (by omega)]; exact p3 b hb j⟩
