/-! goesThrough. -/
def zsv (f : Nat → List (Nat → Nat)) : Nat → Nat → List (Nat → Nat)
  | _, 0 => []
  | w, n + 1 => f w ++ zsv f (w + 1) n
/-- the repaints, the lowest colours of the first countries first -/
def zsol (m : Nat → Nat) (e1 e2 : Int32) : Nat → Nat → (Nat → Nat) → List (Nat → Nat)
  | 0, _, p => [p]
  | k + 1, i, p => if zt m i = true then zsv (fun v => if zfit m e1 e2 i v p = true then zsol m e1 e2 k (i + 1) (zu p i v) else []) 0 4 else zsol m e1 e2 k (i + 1) (zu p i 0)
theorem zsv_len {f : Nat → List (Nat → Nat)} {B : Nat} (hf : ∀ v, (f v).length ≤ B) : ∀ (n w : Nat), (zsv f w n).length ≤ n * B := by
  intro n
  induction n with
  | zero => intro w; simp [zsv]
  | succ n ih =>
    intro w
    have h1 := hf w
    have h2 := ih (w + 1)
    simp only [zsv, List.length_append]
    rw [Nat.succ_mul]
    omega
theorem zsol_len (m : Nat → Nat) (e1 e2 : Int32) : ∀ (k i : Nat) (p : Nat → Nat), (zsol m e1 e2 k i p).length ≤ 4 ^ k := by
  intro k
  induction k with
  | zero => intro i p; simp [zsol]
  | succ k ih =>
    intro i p
    have hp : 4 ^ (k + 1) = 4 * 4 ^ k := by rw [Nat.pow_succ, Nat.mul_comm]
    have hpos : 0 < 4 ^ k := Nat.pow_pos (by omega)
    unfold zsol
    split
    · have := zsv_len (f := fun v => if zfit m e1 e2 i v p = true then zsol m e1 e2 k (i + 1) (zu p i v) else []) (B := 4 ^ k) (fun v => by
        show (if zfit m e1 e2 i v p = true then zsol m e1 e2 k (i + 1) (zu p i v) else []).length ≤ 4 ^ k
        split
        · exact ih _ _
        · simp) 4 0
      omega
    · have := ih (i + 1) (zu p i 0)
      omega
/-- the search at the country i, w values tried -/
def zSt (m : Nat → Nat) (e1 e2 : Int32) (h : zHp) (L : List (Nat → Nat)) (p : Nat → Nat) (i w : Nat) : Prop := zR h m ∧ h 76 11 = e1 ∧ h 76 12 = e2 ∧ zAc m h L ∧ (∀ c, c < i → p c < 4 ∧ h 80 c = nI (p c)) ∧ (i < 8 → h 80 i = nI w + (-1)) ∧ ∀ c, i < c → c < 8 → h 80 c = -1
theorem zgt_a : ∀ w, w < 5 → zci .eq (nI w + (-1)) (nI 3) = decide (w = 4) := by decide +kernel
theorem zgt_b : ∀ w, w < 5 → zci .ne (nI w + (-1)) (nI 0) = !decide (w = 1) := by decide +kernel
theorem zgt_c : ∀ w, w < 9 → nI w + (-1) + nI 1 = nI w := by decide +kernel
theorem zgt_d : ∀ w, w < 9 → nI (w + 1) + (-1) = nI w := by decide +kernel
theorem zgt_e : ∀ w, w < 9 → zci .lt (nI w) (nI 0) = false := by decide +kernel
theorem zgt_f : zci .lt (nI 0 + (-1)) (nI 0) = true := by decide +kernel
theorem zAc_up {m : Nat → Nat} {h : zHp} {L : List (Nat → Nat)} (hA : zAc m h L) (j : Nat) (x : Int32) : zAc m (zup h 80 j x) L := by
  obtain ⟨a1, a2, a3, a4⟩ := hA
  have hz : ∀ b k, b ≠ 80 → zup h 80 j x b k = h b k := fun b k hb => zS_zup_ne _ hb _ _ _
  exact ⟨by rw [hz _ _ (by omega), a1], fun c hc => by rw [hz _ _ (by omega), a2 c hc], fun q hq => ⟨by rw [hz _ _ (by omega)]; exact (a3 q hq).1, fun c hc => by rw [hz _ _ (by omega)]; exact (a3 q hq).2 c hc⟩, fun y hy => by rw [hz _ _ (by omega)]; exact a4 y hy⟩
theorem zSt_up {m : Nat → Nat} {e1 e2 : Int32} {h : zHp} {L : List (Nat → Nat)} {p : Nat → Nat} {i w : Nat} (hS : zSt m e1 e2 h L p i w) {x : Int32} (w' : Nat) (hx : x = nI w' + (-1)) : zSt m e1 e2 (zup h 80 i x) L p i w' := by
  obtain ⟨s1, s2, s3, s4, s5, s6, s7⟩ := hS
  have hz : ∀ b k, b ≠ 80 → zup h 80 i x b k = h b k := fun b k hb => zS_zup_ne _ hb _ _ _
  exact ⟨fun k hk => by rw [hz _ _ (by omega), s1 k hk], by rw [hz _ _ (by omega), s2], by rw [hz _ _ (by omega), s3], zAc_up s4 _ _, fun c hc => ⟨(s5 c hc).1, by rw [zS_zup_nk _ _ (by omega)]; exact (s5 c hc).2⟩, fun _ => by rw [zS_zup_same, hx], fun c hc hc8 => by rw [zS_zup_nk _ _ (by omega), s7 c hc hc8]⟩
/-- one level down -/
theorem zSt_down {m : Nat → Nat} {e1 e2 : Int32} {h : zHp} {L : List (Nat → Nat)} {p : Nat → Nat} {i v : Nat} (hi : i < 8) (hv : v < 4) (hS : zSt m e1 e2 h L p i (v + 1)) : zSt m e1 e2 h L (zu p i v) (i + 1) 0 := by
  obtain ⟨s1, s2, s3, s4, s5, s6, s7⟩ := hS
  refine ⟨s1, s2, s3, s4, fun c hc => ?_, fun h8 => ?_, fun c hc hc8 => s7 c (by omega) hc8⟩
  · by_cases hci : c = i
    · rw [hci, zu_same, s6 hi, zgt_d _ (by omega)]
      exact ⟨hv, rfl⟩
    · rw [zu_ne _ hci]
      exact s5 c (by omega)
  · rw [s7 (i + 1) (by omega) h8]
    decide
/-- one level up -/
theorem zSt_rise {m : Nat → Nat} {e1 e2 : Int32} {h : zHp} {L : List (Nat → Nat)} {p : Nat → Nat} {i v : Nat} (hi : i < 8) (hv : v < 4) (hS : zSt m e1 e2 h L (zu p i v) (i + 1) 0) : zSt m e1 e2 h L p i (v + 1) := by
  obtain ⟨s1, s2, s3, s4, s5, s6, s7⟩ := hS
  refine ⟨s1, s2, s3, s4, fun c hc => ?_, fun h8 => ?_, fun c hc hc8 => ?_⟩
  · have := s5 c (by omega)
    rw [zu_ne _ (by omega)] at this
    exact this
  · have := (s5 i (by omega)).2
    rw [zu_same] at this
    rw [this, zgt_d _ (by omega)]
  · by_cases hci : c = i + 1
    · rw [hci, s6 (by omega)]
      decide
    · exact s7 c (by omega) hc8
def zDn (m : Nat → Nat) (e1 e2 : Int32) (k : Nat) : Prop := ∀ (i : Nat) (p : Nat → Nat) (h : zHp) (L : List (Nat → Nat)), i + k = zev8 m → L.length + 4 ^ k ≤ 65536 → zSt m e1 e2 h L p i 0 → ∃ h', zr_35 54 [some (.inr 76), some (.inl (nI (zev8 m))), some (.inl (nI i))] [] h = zr_35 54 [some (.inr 76), some (.inl (nI (zev8 m))), some (.inl (nI i + (-1)))] [] h' ∧ zSt m e1 e2 h' (L ++ zsol m e1 e2 k i p) p i 0 ∧ zKp h h'
theorem zm_gtv {m : Nat → Nat} {e1 e2 : Int32} (hB : zB m) {k : Nat} (ih : zDn m e1 e2 k) {i : Nat} (hi : i + (k + 1) = zev8 m) (p : Nat → Nat) (ht : zt m i = true) : ∀ (n w : Nat) (h : zHp) (L : List (Nat → Nat)), w + n = 4 → L.length + n * 4 ^ k ≤ 65536 → zSt m e1 e2 h L p i w → ∃ h', zr_35 54 [some (.inr 76), some (.inl (nI (zev8 m))), some (.inl (nI i))] [] h = zr_35 54 [some (.inr 76), some (.inl (nI (zev8 m))), some (.inl (nI i + (-1)))] [] h' ∧ zSt m e1 e2 h' (L ++ zsv (fun v => if zfit m e1 e2 i v p = true then zsol m e1 e2 k (i + 1) (zu p i v) else []) w n) p i 0 ∧ zKp h h' := by
  have he := zB_ev hB
  intro n
  induction n with
  | zero =>
    intro w h L hw hL hS
    have hw : w = 4 := by omega
    subst hw
    have h80 := hS.2.2.2.2.2.1 (by omega)
    refine ⟨zup h 80 i (-1), ?_, ?_, zKp_up (zKp_rf h) (by omega) _⟩
    · rw [zb_35_54, zgt_e _ (by omega), if_neg (by decide), zS_cne (by omega) (by omega), decide_eq_false (by omega), if_pos (by decide), zS_ib _ (by omega), decide_eq_true (by omega), if_pos rfl, if_pos rfl, zS_cl (by omega), h80, zgt_a _ (by omega), decide_eq_true rfl, if_pos rfl]
    · have := zSt_up hS (x := -1) 0 (by decide)
      simpa [zsv] using this
  | succ n ihn =>
    intro w h L hw hL hS
    obtain ⟨s1, s2, s3, s4, s5, s6, s7⟩ := id hS
    have h80 := s6 (by omega)
    have start : zr_35 54 [some (.inr 76), some (.inl (nI (zev8 m))), some (.inl (nI i))] [] h = zr_35 129 [some (.inr 76), some (.inl (nI (zev8 m))), some (.inl (nI i))] [.inl (nI (zt m i).toNat), .inl (nI i)] (zup h 80 i (nI w)) := by
      rw [zb_35_54, zgt_e _ (by omega), if_neg (by decide), zS_cne (by omega) (by omega), decide_eq_false (by omega), if_pos (by decide), zS_ib _ (by omega), decide_eq_true (by omega), if_pos rfl, if_pos rfl, zS_cl (by omega), h80, zgt_a _ (by omega), decide_eq_false (by omega), if_neg (by decide), zm_there_n s1 hB (by omega)]
      simp only [Option.bind_some, zpush]
      rw [zb_35_88, ht, zS_b0n, if_pos rfl, zS_ib _ (by omega), decide_eq_true (by omega), if_pos rfl, if_pos rfl, zS_cl (by omega), h80, zgt_c _ (by omega), zm_there_n (m := m) (fun j hj => by rw [zS_zup_ne _ (by omega), s1 j hj]) hB (by omega), ht]
      simp only [Option.bind_some, zpush]
    have hS1 : zSt m e1 e2 (zup h 80 i (nI w)) L p i (w + 1) := zSt_up hS (x := nI w) (w + 1) (zgt_d _ (by omega)).symm
    obtain ⟨r1, r2, r3, r4, r5, r6, r7⟩ := id hS1
    rw [zb_35_129, ht, zS_b0, if_neg (by decide), zm_fits r1 hB r2 r3 (v := w) (p := p) (by omega) (by omega) (fun o ho => (r5 o ho).2) (fun o ho => (r5 o ho).1) (zS_zup_same _ _ _ _)] at start
    simp only [Option.bind_some, zpush] at start
    rw [zb_35_137, zS_b0, zS_add, zS_add] at start
    have hz : zsv (fun v => if zfit m e1 e2 i v p = true then zsol m e1 e2 k (i + 1) (zu p i v) else []) w (n + 1) = (if zfit m e1 e2 i w p = true then zsol m e1 e2 k (i + 1) (zu p i w) else []) ++ zsv (fun v => if zfit m e1 e2 i v p = true then zsol m e1 e2 k (i + 1) (zu p i v) else []) (w + 1) n := rfl
    rw [hz]
    have hmul : (n + 1) * 4 ^ k = n * 4 ^ k + 4 ^ k := Nat.succ_mul _ _
    have hK1 : zKp h (zup h 80 i (nI w)) := zKp_up (zKp_rf h) (by omega) _
    cases hf : zfit m e1 e2 i w p with
    | false =>
      rw [hf, if_pos (by decide), Nat.add_zero] at start
      obtain ⟨h', q1, q2, q3⟩ := ihn (w + 1) _ L (by omega) (Nat.le_trans (Nat.add_le_add_left (by rw [hmul]; exact Nat.le_add_right _ _) _) hL) hS1
      refine ⟨h', start.trans q1, ?_, zKp_tr hK1 q3⟩
      rw [if_neg (by decide), List.nil_append]
      exact q2
    | true =>
      rw [hf, if_neg (by decide)] at start
      obtain ⟨h1, q1, q2, q3⟩ := ih (i + 1) (zu p i w) _ L (by omega) (by omega) (zSt_down (by omega) (by omega) hS1)
      rw [zgt_d _ (by omega)] at q1
      have hlen := zsol_len m e1 e2 k (i + 1) (zu p i w)
      obtain ⟨h', t1, t2, t3⟩ := ihn (w + 1) h1 (L ++ zsol m e1 e2 k (i + 1) (zu p i w)) (by omega) (by
        rw [List.length_append]
        omega) (zSt_rise (by omega) (by omega) q2)
      refine ⟨h', start.trans (q1.trans t1), ?_, zKp_tr hK1 (zKp_tr q3 t3)⟩
      rw [if_pos rfl, ← List.append_assoc]
      exact t2
theorem zm_gtd {m : Nat → Nat} {e1 e2 : Int32} (hB : zB m) : ∀ k, zDn m e1 e2 k := by
  have he := zB_ev hB
  intro k
  induction k with
  | zero =>
    intro i p h L hi hL hS
    have hi : i = zev8 m := by omega
    obtain ⟨s1, s2, s3, s4, s5, s6, s7⟩ := hS
    obtain ⟨h', q1, q2, q3, q4⟩ := zm_meet hB (by rw [Nat.pow_zero] at hL; omega) s1 (p := p) (fun c hc => (s5 c (by omega)).1) (fun c hc => (s5 c (by omega)).2) s4
    refine ⟨h', ?_, ⟨zKp_R q3 s1, by rw [q3 76 11 (by omega) (by omega) (by omega) (by omega), s2], by rw [q3 76 12 (by omega) (by omega) (by omega) (by omega), s3], q2, fun c hc => by rw [q4]; exact s5 c hc, fun h8 => by rw [q4]; exact s6 h8, fun c hc hc8 => by rw [q4]; exact s7 c hc hc8⟩, q3⟩
    rw [zb_35_54, zgt_e _ (by omega), if_neg (by decide), zS_cne (by omega) (by omega), decide_eq_true hi, if_neg (by decide), q1]
    simp only [Option.bind_some, zpush]
    rw [zb_35_67]
  | succ k ih =>
    intro i p h L hi hL hS
    have hp : 4 ^ (k + 1) = 4 * 4 ^ k := by rw [Nat.pow_succ, Nat.mul_comm]
    unfold zsol
    cases ht : zt m i with
    | true =>
      rw [if_pos rfl]
      exact zm_gtv hB ih hi p ht 4 0 h L (by omega) (by omega) hS
    | false =>
      rw [if_neg (by decide)]
      obtain ⟨s1, s2, s3, s4, s5, s6, s7⟩ := id hS
      have h80 := s6 (by omega)
      have start : zr_35 54 [some (.inr 76), some (.inl (nI (zev8 m))), some (.inl (nI i))] [] h = zr_35 129 [some (.inr 76), some (.inl (nI (zev8 m))), some (.inl (nI i))] [.inl (nI (zt m i).toNat), .inl (nI i)] (zup h 80 i (nI 0)) := by
        rw [zb_35_54, zgt_e _ (by omega), if_neg (by decide), zS_cne (by omega) (by omega), decide_eq_false (by omega), if_pos (by decide), zS_ib _ (by omega), decide_eq_true (by omega), if_pos rfl, if_pos rfl, zS_cl (by omega), h80, zgt_a _ (by omega), decide_eq_false (by omega), if_neg (by decide), zm_there_n s1 hB (by omega)]
        simp only [Option.bind_some, zpush]
        rw [zb_35_88, ht, zS_b0n, if_neg (by decide), zS_ib _ (by omega), decide_eq_true (by omega), if_pos rfl, if_pos rfl, if_pos rfl, zS_cl (by omega), h80, zgt_b _ (by omega), decide_eq_false (by omega), if_pos (by decide), zgt_c _ (by omega), zm_there_n (m := m) (fun j hj => by rw [zS_zup_ne _ (by omega), s1 j hj]) hB (by omega), ht]
        simp only [Option.bind_some, zpush]
      have hS1 : zSt m e1 e2 (zup h 80 i (nI 0)) L p i (0 + 1) := zSt_up hS (x := nI 0) (0 + 1) (zgt_d _ (by omega)).symm
      rw [zb_35_129, ht, zS_b0, if_pos (by decide), zS_add] at start
      obtain ⟨h1, q1, q2, q3⟩ := ih (i + 1) (zu p i 0) _ L (by omega) (by omega) (zSt_down (by omega) (by omega) hS1)
      rw [zgt_d _ (by omega)] at q1
      have hS2 := zSt_rise (by omega) (by omega) q2
      obtain ⟨r1, r2, r3, r4, r5, r6, r7⟩ := id hS2
      have h81 := r6 (by omega)
      have back : zr_35 54 [some (.inr 76), some (.inl (nI (zev8 m))), some (.inl (nI i))] [] h1 = zr_35 54 [some (.inr 76), some (.inl (nI (zev8 m))), some (.inl (nI i + (-1)))] [] (zup h1 80 i (-1)) := by
        rw [zb_35_54, zgt_e _ (by omega), if_neg (by decide), zS_cne (by omega) (by omega), decide_eq_false (by omega), if_pos (by decide), zS_ib _ (by omega), decide_eq_true (by omega), if_pos rfl, if_pos rfl, zS_cl (by omega), h81, zgt_a _ (by omega), decide_eq_false (by omega), if_neg (by decide), zm_there_n r1 hB (by omega)]
        simp only [Option.bind_some, zpush]
        rw [zb_35_88, ht, zS_b0n, if_neg (by decide), zS_ib _ (by omega), decide_eq_true (by omega), if_pos rfl, if_pos rfl, if_pos rfl, zS_cl (by omega), h81, zgt_b _ (by omega), decide_eq_true (by omega), if_neg (by decide), if_pos (show true = true from rfl)]
      refine ⟨zup h1 80 i (-1), start.trans (q1.trans back), zSt_up hS2 (x := -1) 0 (by decide), zKp_up (zKp_tr (zKp_up (zKp_rf h) (by omega) _) q3) (by omega) _⟩
theorem zm_gt0 {n : Int32} : ∀ (k x : Nat) (h : zHp), x + k = 8 → ∃ h', zr_35 26 [some (.inr 76), some (.inl n), some (.inl (nI x))] [] h = zr_35 54 [some (.inr 76), some (.inl n), some (.inl (nI 0))] [] h' ∧ (∀ c, x ≤ c → c < 8 → h' 82 c = nI 0 ∧ h' 80 c = -1) ∧ (∀ b j, (b ≠ 80 ∧ b ≠ 82) ∨ j < x → h' b j = h b j) := by
  intro k
  induction k with
  | zero =>
    intro x h hx
    refine ⟨h, ?_, fun c a b => by omega, fun _ _ _ => rfl⟩
    rw [zb_35_26, zS_cge (by omega) (by omega), decide_eq_true (by omega), if_pos rfl]
  | succ k ih =>
    intro x h hx
    obtain ⟨h', q1, q2, q3⟩ := ih (x + 1) (zup (zup h 82 x (nI 0)) 80 x (-1)) (by omega)
    refine ⟨h', ?_, fun c a b => ?_, fun b j hb => ?_⟩
    · rw [zb_35_26, zS_cge (by omega) (by omega), decide_eq_false (by omega), if_neg (by decide), zS_ib _ (by omega), decide_eq_true (by omega), if_pos rfl, if_pos rfl, zS_cl (by omega), zS_add]
      exact q1
    · by_cases hc : c = x
      · subst hc
        rw [q3 82 c (Or.inr (by omega)), q3 80 c (Or.inr (by omega)), zS_zup_ne _ (by omega), zS_zup_same, zS_zup_same]
        exact ⟨rfl, rfl⟩
      · exact q2 c (by omega) b
    · rw [q3 b j (by omega)]
      unfold zup
      rw [if_neg (by omega), if_neg (by omega)]
def zall1 (m : Nat → Nat) (e1 e2 : Int32) : List (Nat → Nat) := zsol m e1 e2 (zev8 m) 0 (fun _ => 0)
theorem zm_gt {h : zHp} {m : Nat → Nat} (hR : zR h m) (hB : zB m) {e1 e2 : Int32} (h1 : h 76 11 = e1) (h2 : h 76 12 = e2) : ∃ h', zM_35 [.inr 76] h = some (none, h') ∧ zAc m h' (zall1 m e1 e2) ∧ zKp h h' := by
  have he := zB_ev hB
  have hz : ∀ b j, ¬ (b = 76 ∧ (j = 8 ∨ j = 9 ∨ j = 10)) → zup (zup (zup h 76 9 (nI 0)) 76 8 (nI 0)) 76 10 (nI 0) b j = h b j := fun b j hb => by
    unfold zup
    rw [if_neg (by omega), if_neg (by omega), if_neg (by omega)]
  have start := ze_35 h
  rw [zg149, if_pos rfl, hz _ _ (by omega), zR_149 hR] at start
  obtain ⟨h3, q1, q2, q3⟩ := zm_gt0 (n := nI (zev8 m)) 8 0 (zup (zup (zup h 76 9 (nI 0)) 76 8 (nI 0)) 76 10 (nI 0)) (by omega)
  have hy : ∀ b j, b ≠ 80 → b ≠ 82 → ¬ (b = 76 ∧ (j = 8 ∨ j = 9 ∨ j = 10)) → h3 b j = h b j := fun b j a b2 c => by rw [q3 b j (Or.inl ⟨a, b2⟩), hz b j c]
  have hA : zAc m h3 [] := by
    refine ⟨?_, fun c hc => (q2 c (by omega) hc).1, fun q hq => ?_, fun x hx => ?_⟩
    · rw [q3 76 9 (Or.inl ⟨by omega, by omega⟩), zS_zup_nk _ _ (by omega), zS_zup_nk _ _ (by omega), zS_zup_same]
      rfl
    · cases hq
    · cases hx
  have hS : zSt m e1 e2 h3 [] (fun _ => 0) 0 0 := by
    refine ⟨fun k hk => by rw [hy _ _ (by omega) (by omega) (by omega), hR k hk], by rw [hy _ _ (by omega) (by omega) (by omega), h1], by rw [hy _ _ (by omega) (by omega) (by omega), h2], hA, fun c hc => by omega, fun _ => ?_, fun c hc hc8 => (q2 c (by omega) hc8).2⟩
    rw [(q2 0 (by omega) (by omega)).2]
    decide
  have h48 : 4 ^ zev8 m ≤ 4 ^ 8 := Nat.pow_le_pow_right (by omega) he
  obtain ⟨h', r1, r2, r3⟩ := zm_gtd hB (zev8 m) 0 (fun _ => 0) h3 [] (by omega) (by
    have : (4 : Nat) ^ 8 = 65536 := by decide
    simp only [List.length_nil]
    omega) hS
  refine ⟨h', ?_, r2.2.2.2.1, zKp_tr (fun b j a b2 c d => hy b j a c d) r3⟩
  rw [start, q1, r1, zb_35_54, zgt_f, if_pos rfl]
