/-! readBorders of the class, as an act. -/
theorem zEt_tl {h : zHp} {i : Nat} {x : Nat × Nat × Nat} {l : List (Nat × Nat × Nat)} (hE : zEt h i (x :: l)) : (h 59 i = nI x.1 ∧ h 60 i = nI x.2.1 ∧ h 61 i = nI x.2.2) ∧ zEt h (i + 1) l := by
  refine ⟨hE 0 x rfl, fun t y hy => ?_⟩
  have := hE (t + 1) y hy
  rw [show i + (t + 1) = i + 1 + t by omega] at this
  exact this
theorem zEt_fr {h h' : zHp} {i : Nat} {l : List (Nat × Nat × Nat)} (hE : zEt h i l) (hf : ∀ b j, 57 ≤ b → b < 62 → h' b j = h b j) : zEt h' i l := fun t x hx => by
  obtain ⟨a, b, c⟩ := hE t x hx
  exact ⟨by rw [hf _ _ (by omega) (by omega), a], by rw [hf _ _ (by omega) (by omega), b], by rw [hf _ _ (by omega) (by omega), c]⟩
theorem zany_c (g : Nat × Nat × Nat → Bool) (x : Nat × Nat × Nat) (l : List (Nat × Nat × Nat)) : zany g (x :: l) = (g x || zany g l) := rfl
theorem zn_r20 {h : zHp} {m : Nat → Nat} (hS : zSr h 1 m) (hB : zB m) {N : Nat} (hN : N ≤ 16) (h2 : h 57 2 = nI N) (d1 : Option zV) : ∀ (l : List (Nat × Nat × Nat)) (i : Nat), i + l.length = N → zEt h i l → (∀ x, x ∈ l → x.1 ≤ 9 ∧ x.2.1 ≤ 9 ∧ x.2.2 ≤ 99) → zr_96 20 [some (.inr 0), d1, some (.inl (nI i))] [] h = if zany (zbad2 m) l = true then some (some (-1), h) else zr_96 79 [some (.inr 0), d1, some (.inl (nI 0))] [] h := by
  intro l
  induction l with
  | nil =>
    intro i hi _ _
    have hi : i = N := by simpa using hi
    rw [zb_96_20, h2, zS_cge (by omega) (by omega), decide_eq_true (by omega), if_pos rfl]
    rfl
  | cons x l ih =>
    intro i hi hE hx
    rw [List.length_cons] at hi
    obtain ⟨⟨e1, e2, e3⟩, hE2⟩ := zEt_tl hE
    obtain ⟨x1, x2, x3⟩ := hx x (List.mem_cons_self)
    have t1 : zth m (nI x.1) = zt m x.1 := zth_nI (by omega)
    have t2 : zth m (nI x.2.1) = zt m x.2.1 := zth_nI (by omega)
    have ih2 := ih (i + 1) (by omega) hE2 (fun y hy => hx y (List.mem_cons_of_mem _ hy))
    rw [zany_c, zb_96_20, h2, zS_cge (by omega) (by omega), decide_eq_false (by omega), if_neg (by decide), zS_ib _ (by omega), decide_eq_true (show i < 16 by omega), if_pos rfl, zS_cl (by omega), e1, zn_there hS hB, t1]
    simp only [Option.bind_some, zpush]
    rw [zb_96_47, zS_b0]
    unfold zbad2 at ih2 ⊢
    cases h4 : zt m x.1 with
    | false =>
      rw [if_pos (by decide)]
      rfl
    | true =>
      rw [if_neg (by decide), zS_ib _ (by omega), decide_eq_true (show i < 16 by omega), if_pos rfl, zS_cl (by omega), e2, zn_there hS hB, t2]
      simp only [Option.bind_some, zpush]
      rw [zb_96_66, zS_b0n, zS_add]
      cases h5 : zt m x.2.1 with
      | false =>
        rw [if_neg (by decide)]
        rfl
      | true =>
        rw [if_pos rfl, ih2]
        rfl
theorem zn_r79 {h : zHp} {N : Nat} (hN : N ≤ 16) (h2 : h 57 2 = nI N) (d1 : Option zV) : ∀ (l : List (Nat × Nat × Nat)) (i : Nat), i + l.length = N → zEt h i l → (∀ x, x ∈ l → x.1 ≤ 9 ∧ x.2.1 ≤ 9 ∧ x.2.2 ≤ 99) → zr_96 79 [some (.inr 0), d1, some (.inl (nI i))] [] h = if zany zsam l = true then some (some (-2), h) else (zM_65 [.inr 19, .inr 1] h).bind (fun r => zr_96 131 [some (.inr 0), d1, some (.inl (nI N))] (zpush r.1 []) r.2) := by
  intro l
  induction l with
  | nil =>
    intro i hi _ _
    have hi : i = N := by simpa using hi
    rw [zb_96_79, h2, zS_cge (by omega) (by omega), decide_eq_true (by omega), if_pos rfl, hi]
    rfl
  | cons x l ih =>
    intro i hi hE hx
    rw [List.length_cons] at hi
    obtain ⟨⟨e1, e2, e3⟩, hE2⟩ := zEt_tl hE
    obtain ⟨x1, x2, x3⟩ := hx x (List.mem_cons_self)
    have ih2 := ih (i + 1) (by omega) hE2 (fun y hy => hx y (List.mem_cons_of_mem _ hy))
    rw [zany_c, zb_96_79, h2, zS_cge (by omega) (by omega), decide_eq_false (by omega), if_neg (by decide), zS_ib _ (by omega), decide_eq_true (show i < 16 by omega), if_pos rfl, if_pos rfl, zS_cl (by omega), e1, e2, zS_cne (by omega) (by omega), zS_add, ih2]
    have ez : zsam x = decide (x.1 = x.2.1) := rfl
    rw [ez]
    cases decide (x.1 = x.2.1) with
    | true => rfl
    | false => rfl
theorem zn_r133 {N : Nat} (hN : N ≤ 16) (d1 : Option zV) : ∀ (l : List (Nat × Nat × Nat)) (i : Nat) (m : Nat → Nat) (h : zHp), h 57 2 = nI N → zSr h 1 m → zI m → i + l.length = N → zEt h i l → (∀ x, x ∈ l → x.1 ≤ 9 ∧ x.2.1 ≤ 9 ∧ x.2.2 ≤ 99) → zany (zbad2 m) l = false → zany zsam l = false → ∃ h', zr_96 133 [some (.inr 0), d1, some (.inl (nI i))] [] h = some (some (nI N), h') ∧ zSr h' 1 (zput m l) ∧ ∀ x j, x < 6 ∨ 10 ≤ x → h' x j = h x j := by
  intro l
  induction l with
  | nil =>
    intro i m h h2 hS hI hi hE hx hb hs
    have hi : i = N := by simpa using hi
    refine ⟨h, ?_, hS, fun _ _ _ => rfl⟩
    rw [zb_96_133, h2, zS_cge (by omega) (by omega), decide_eq_true (by omega), if_pos rfl]
  | cons x l ih =>
    intro i m h h2 hS hI hi hE hx hb hs
    rw [List.length_cons] at hi
    obtain ⟨⟨e1, e2, e3⟩, hE2⟩ := zEt_tl hE
    obtain ⟨x1, x2, x3⟩ := hx x (List.mem_cons_self)
    have he := zB_ev hI.1
    rw [zany_c, Bool.or_eq_false_iff] at hb hs
    have hb1 := hb.1
    unfold zbad2 at hb1
    rw [Bool.or_eq_false_iff, Bool.not_eq_false', Bool.not_eq_false'] at hb1
    have hs1 : x.1 ≠ x.2.1 := of_decide_eq_false hs.1
    have l1 := zt_lt hb1.1
    have l2 := zt_lt hb1.2
    have h8 : x.1 < 8 := by omega
    have h9 : x.2.1 < 8 := by omega
    obtain ⟨g, g1, g2, g3⟩ := zn_put (len := x.2.2) hS hI h8 h9 hs1 x3
    have tof : ∀ c, zt m c = true → zof m c 0 = 1 := fun c hc => by
      unfold zt at hc
      simp only [Bool.and_eq_true, decide_eq_true_eq] at hc
      exact hc.2
    have hI2 : zI (zly m x.1 x.2.1 x.2.2) := zI_ly hI h8 h9 hs1 x3 (fun _ => ⟨tof _ hb1.1, tof _ hb1.2⟩)
    obtain ⟨h', r1, r2, r3⟩ := ih (i + 1) (zly m x.1 x.2.1 x.2.2) g (by rw [g3 _ _ (by omega), h2]) g2 hI2 (by omega) (zEt_fr hE2 (fun b j a _ => g3 b j (by omega))) (fun y hy => hx y (List.mem_cons_of_mem _ hy)) (by
      rw [zany_congr (g := zbad2 (zly m x.1 x.2.1 x.2.2)) (g' := zbad2 m) (fun y => by
        unfold zbad2
        rw [zt_ly hI.1 h8 h9, zt_ly hI.1 h8 h9])]
      exact hb.2) hs.2
    refine ⟨h', ?_, r2, fun y j hy => (r3 y j hy).trans (g3 y j hy)⟩
    rw [zb_96_133, h2, zS_cge (by omega) (by omega), decide_eq_false (by omega), if_neg (by decide), zS_ib _ (by omega), decide_eq_true (show i < 16 by omega), if_pos rfl, if_pos rfl, if_pos rfl, zS_cl (by omega), e1, e2, e3, g1]
    simp only [Option.bind_some, zpush]
    rw [zb_96_181, zS_add]
    exact r1
theorem zn_remW {h : zHp} {m : Nat → Nat} {hs : List (Nat → Nat)} {sn : Option (Nat → Nat)} {tx : List Nat} (hV : zCV h m hs sn tx) (hB : zB m) : ∃ h', zM_65 [.inr 19, .inr 1] h = some (none, h') ∧ zCV h' m (zph hs m) sn tx ∧ ∀ b j, (b < 19 ∨ b = 20 ∨ 57 ≤ b) → h' b j = h b j := by
  obtain ⟨s, H, ⟨a1, a2⟩, b1, b2, b3⟩ := hV
  obtain ⟨h', p1, p2, p3⟩ := zn_rem s hB H
  exact ⟨h', p1, ⟨zSr_fr s (fun b j x y => p3 b j (by omega)), p2, ⟨by rw [p3 _ _ (by omega), a1], fun x hx => zSr_fr (a2 x hx) (fun b j x y => p3 b j (by omega))⟩, by rw [p3 _ _ (by omega), b1], b2, fun i x hx => by rw [p3 _ _ (by omega), b3 i x hx]⟩, p3⟩
theorem zCV_fr {h h' : zHp} {m : Nat → Nat} {hs : List (Nat → Nat)} {sn : Option (Nat → Nat)} {tx : List Nat} (hV : zCV h m hs sn tx) (hf : ∀ b j, b < 59 → ¬ (b = 57 ∧ j = 2) → h' b j = h b j) : zCV h' m hs sn tx := by
  obtain ⟨s, H, ⟨a1, a2⟩, b1, b2, b3⟩ := hV
  exact ⟨zSr_fr s (fun b j x y => hf b j (by omega) (by omega)), zCH_fr H (fun b j x y => hf b j (by omega) (by omega)), ⟨by rw [hf _ _ (by omega) (by omega), a1], fun x hx => zSr_fr (a2 x hx) (fun b j x y => hf b j (by omega) (by omega))⟩, by rw [hf _ _ (by omega) (by omega), b1], b2, fun i x hx => by rw [hf _ _ (by omega) (by omega), b3 i x hx]⟩
theorem zpl_j {tx : List Nat} (ht : tx.length ≤ 60) : ∀ (f k j : Nat), k ≤ 60 → zpl tx f k = .inl j → j < 100 := by
  intro f
  induction f with
  | zero =>
    intro k j hk h
    have h := Sum.inl.inj h
    omega
  | succ f ih =>
    intro k j hk h
    obtain ⟨u1, u2⟩ := zpb_up (tx := tx) (k := k)
    cases hp : zpb tx k with
    | inl e =>
      have := u1 e hp
      rw [zpl_a hp] at h
      have h := Sum.inl.inj h
      omega
    | inr q =>
      obtain ⟨e, a, b, n⟩ := q
      have := u2 e a b n hp
      by_cases hj : tx.length ≤ e
      · rw [zpl_b1 hp hj] at h
        cases h
      · cases hc : zbt tx e 44 44 with
        | false =>
          rw [zpl_b2 hp hj hc] at h
          have h := Sum.inl.inj h
          omega
        | true =>
          cases hq : zpl tx f (e + 1) with
          | inl e2 =>
            rw [zpl_b3 hp hj hc hq] at h
            have h := Sum.inl.inj h
            have := ih (e + 1) e2 (by omega) hq
            omega
          | inr l2 =>
            rw [zpl_b4 hp hj hc hq] at h
            cases h
theorem zn_read {h : zHp} {m : Nat → Nat} {hs : List (Nat → Nat)} {sn : Option (Nat → Nat)} {tx : List Nat} (hV : zCV h m hs sn tx) (hI : zI m) (hch : ∀ x, x ∈ tx → x < 65536) : zCAns (zM_96 [.inr 0]) (zoRead m tx) h m hs sn tx := by
  have hX := zXt_of hV.2.2.2 hch
  have hlen := hX.2.1
  obtain ⟨h1, r1, r2, r3⟩ := zn_rd hX
  have hV1 : zCV h1 m hs sn tx := zCV_fr hV (fun b j a q => r2 b j q (by omega))
  have hhi : zhi h h1 := fun b hb j => r2 b j (by omega) (by omega)
  have start := ze_96 h
  rw [r1] at start
  simp only [Option.bind_some, zpush] at start
  rw [zb_96_7] at start
  unfold zoRead
  generalize hq : zpl tx 61 0 = q at r1 r3 start
  have h16 := zpl_16 hlen 61 0 0
  have hin := zpl_in (tx := tx) 61 0
  have hj := fun j => zpl_j hlen 61 0 j (by omega)
  rw [hq] at h16 hin hj
  cases q with
  | inl j =>
    have e0 : zci .eq (zpr (.inl j)) (-1) = false := by
      exact zS_eqm1 j (hj j rfl)
    rw [e0, if_neg (by decide)] at start
    exact ⟨h1, start, hV1, hhi⟩
  | inr l =>
    have e0 : zci .eq (zpr (.inr l)) (-1) = true := by
      show zci .eq (-1) (-1) = true
      decide
    obtain ⟨t1, t2⟩ := r3 l rfl
    have hN := h16 l (by omega) rfl
    rw [Nat.zero_add] at hN
    have hin := hin l rfl
    rw [e0, if_pos rfl, zn_r20 hV1.1 hI.1 hN t1 _ l 0 (by omega) t2 hin] at start
    show zCAns _ (if zany (zbad2 m) l = true then _ else _) h m hs sn tx
    cases h4 : zany (zbad2 m) l with
    | true =>
      rw [h4, if_pos rfl] at start
      exact ⟨h1, start, hV1, hhi⟩
    | false =>
      rw [h4, if_neg (by decide), zn_r79 hN t1 _ l 0 (by omega) t2 hin] at start
      rw [if_neg (by decide)]
      cases h5 : zany zsam l with
      | true =>
        rw [h5, if_pos rfl] at start
        exact ⟨h1, start, hV1, hhi⟩
      | false =>
        obtain ⟨h2, p1, p2, p3⟩ := zn_remW hV1 hI.1
        rw [h5, if_neg (by decide), p1] at start
        simp only [Option.bind_some, zpush] at start
        rw [zb_96_131] at start
        obtain ⟨h3, s1, s2, s3⟩ := zn_r133 hN (some (.inl (zpr (.inr l)))) l 0 m h2 (by rw [p3 _ _ (by omega), t1]) p2.1 hI (by omega) (zEt_fr t2 (fun b j a _ => p3 b j (by omega))) hin h4 h5
        rw [s1] at start
        exact ⟨h3, start, zCV_now p2 s2 (fun b j hb => s3 b j (by omega)), fun b hb j => by rw [s3 b j (by omega), p3 b j (by omega), hhi b hb j]⟩
