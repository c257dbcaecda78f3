/-! join of the class: its way through the borders against the reference's. -/
def zinc2 (c z : Nat) : Bool := decide (z / 10 = c) || decide (z % 10 = c)
def zth3 (c z : Nat) : Nat := if z / 10 = c then z % 10 else z / 10
def zfst (c : Nat) (L : List Nat) : Option Nat := L.find? (zinc2 c)
def zcj (c o : Nat) : Nat → (Nat → Nat) → (Nat → Nat)
  | 0, m => m
  | n + 1, m => match zfst c (zol m) with
    | none => m
    | some z => zcj c o n (if zth3 c z = o then zly m c o 0 else zmov m c o (zth3 c z))
theorem zjl_none {c o : Nat} : ∀ (f p : Nat) (m : Nat → Nat), (∀ j, j < znb m → zthird m j c = 9) → zjl c o f p m = m := by
  intro f
  induction f with
  | zero => intro p m _; rfl
  | succ f ih =>
    intro p m h
    unfold zjl
    by_cases h1 : znb m ≤ p
    · rw [if_pos h1]
    · rw [if_neg h1, if_pos (h p (by omega))]
      exact ih (p + 1) m h
theorem zjl_skip {c o f : Nat} {m : Nat → Nat} : ∀ (d p : Nat), p + d ≤ znb m → (∀ j, p ≤ j → j < p + d → zthird m j c = 9) → zjl c o (f + d) p m = zjl c o f (p + d) m := by
  intro d
  induction d with
  | zero => intro p _ _; rfl
  | succ d ih =>
    intro p hp h
    rw [show f + (d + 1) = (f + d) + 1 by omega]
    show (if znb m ≤ p then m else if zthird m p c = 9 then zjl c o (f + d) (p + 1) m else _) = _
    rw [if_neg (by omega), if_pos (h p (by omega) (by omega)), ih (p + 1) (by omega) (fun j a b => h j (by omega) (by omega)), show p + 1 + d = p + (d + 1) by omega]
theorem zthird_no {m : Nat → Nat} {k c : Nat} (h : zinc2 c (zod m k) = false) : zthird m k c = 9 := by
  unfold zinc2 at h
  rw [Bool.or_eq_false_iff, decide_eq_false_iff_not, decide_eq_false_iff_not] at h
  unfold zthird
  rw [if_neg h.1, if_neg h.2]
theorem zthird_yes {m : Nat → Nat} {k c : Nat} (h : zinc2 c (zod m k) = true) : zthird m k c = zth3 c (zod m k) := by
  unfold zinc2 at h
  rw [Bool.or_eq_true, decide_eq_true_iff, decide_eq_true_iff] at h
  unfold zthird zth3
  by_cases h1 : zod m k / 10 = c
  · rw [if_pos h1, if_pos h1]
  · rw [if_neg h1, if_neg h1, if_pos (by omega)]
theorem znf_less {m m' : Nat → Nat} {c t : Nat} (ht : t < 8) (h1 : 0 < zln m c t) (h2 : zln m' c t = 0) (h3 : ∀ y, y < 8 → 0 < zln m' c y → 0 < zln m c y) : znf m' c < znf m c := by
  unfold znf zbits
  refine zbits_more (o := t) (fun i hi => ?_) ?_ ?_ 8 0 (by omega) (by omega)
  · rw [zset8_bit] at hi ⊢
    simp only [Bool.and_eq_true, decide_eq_true_eq] at hi ⊢
    exact ⟨hi.1, h3 i (by omega) hi.2⟩
  · rw [zset8_b8 _ ht, h2]
    rfl
  · rw [zset8_b8 _ ht, decide_eq_true h1]
theorem znf_0 {m : Nat → Nat} {c t : Nat} (h : znf m c = 0) (ht : t < 8) : zln m c t = 0 := by
  have h0 := (zbits_0 (zset8_lt _ (by omega))).mp h
  rcases Nat.eq_zero_or_pos (zln m c t) with a | a
  · exact a
  · have : (zset8 (fun t => decide (0 < zln m c t)) 0 8).testBit t = true := by
      rw [zset8_b8 _ ht, decide_eq_true a]
    rw [h0] at this
    simp at this
/-- an entry of the order that names c -/
theorem zinc_I {m : Nat → Nat} (hI : zI m) {c k : Nat} (hc : c < 8) (hk : k < znb m) (h : zinc2 c (zod m k) = true) : zth3 c (zod m k) < 8 ∧ c ≠ zth3 c (zod m k) ∧ zod m k = zcd c (zth3 c (zod m k)) ∧ 0 < zln m c (zth3 c (zod m k)) ∧ zof m (zth3 c (zod m k)) 0 = 1 := by
  obtain ⟨hB, i1, i2, i3, i4, i5, i6, o1, o2, o3⟩ := id hI
  obtain ⟨lo, hi, p1, p2, p3, p4⟩ := o1 k hk
  have plo := i5 lo hi (by omega) p2 p4
  have p4' : 0 < zln m hi lo := by rw [i3 _ _ p2 (by omega)]; exact p4
  have phi := i5 hi lo p2 (by omega) p4'
  unfold zinc2 at h
  rw [Bool.or_eq_true, decide_eq_true_iff, decide_eq_true_iff] at h
  rw [show zod m k / 10 = lo by omega, show zod m k % 10 = hi by omega] at h
  unfold zth3
  rw [show zod m k / 10 = lo by omega, show zod m k % 10 = hi by omega]
  by_cases h1 : lo = c
  · subst h1
    rw [if_pos rfl]
    refine ⟨p2, by omega, ?_, p4, phi⟩
    unfold zcd
    rw [if_pos p1, p3]
  · have h2 : hi = c := by omega
    subst h2
    rw [if_neg h1]
    refine ⟨by omega, by omega, ?_, p4', plo⟩
    unfold zcd
    rw [if_neg (by omega), p3]
theorem zfst_no {m : Nat → Nat} {c : Nat} (h : zfst c (zol m) = none) : ∀ j, j < znb m → zinc2 c (zod m j) = false := by
  intro j hj
  have := List.find?_eq_none.mp h (zod m j) (zol_mem.mpr ⟨j, hj, rfl⟩)
  simpa using this
theorem zno_ln {m : Nat → Nat} (hI : zI m) {c o : Nat} (hc : c < 8) (ho : o < 8) (hco : c ≠ o) (h : ∀ j, j < znb m → zinc2 c (zod m j) = false) : zln m c o = 0 := by
  obtain ⟨hB, i1, i2, i3, i4, i5, i6, o1, o2, o3⟩ := id hI
  rcases Nat.eq_zero_or_pos (zln m c o) with a | a
  · exact a
  · obtain ⟨lo, hi, q1, q2, q3, q4⟩ := zcd_lh hc ho hco
    have hp : 0 < zln m lo hi := by
      rcases q4 with ⟨rfl, rfl⟩ | ⟨rfl, rfl⟩
      · exact a
      · rw [i3 _ _ (by omega) (by omega)]; exact a
    obtain ⟨k, k1, k2⟩ := o3 lo hi q1 q2 hp
    have := h k k1
    unfold zinc2 at this
    rw [Bool.or_eq_false_iff, decide_eq_false_iff_not, decide_eq_false_iff_not] at this
    omega
theorem zcj_jl {c o : Nat} (hc : c < 8) (ho : o < 8) (hco : c ≠ o) : ∀ (n : Nat) (C : Nat → Nat) (f p : Nat) (R : Nat → Nat), zI C → zI R → zof C o 0 = 1 → zqv R (zly C c o 0) → znf C c ≤ n → p ≤ znb R → (∀ j, j < p → zthird R j c = 9) → znb R - p + 2 * znf R c < f → zqv (zcj c o n C) (zjl c o f p R) ∧ zI (zcj c o n C) := by
  have base : ∀ (C R : Nat → Nat) (f p : Nat), zI C → zI R → zqv R (zly C c o 0) → (∀ j, j < znb C → zinc2 c (zod C j) = false) → zqv C (zjl c o f p R) := by
    intro C R f p hC hR hq hno
    have h0 : zln C c o = 0 := zno_ln hC hc ho hco hno
    have hCR : zqv C R := zqv_tr (zqv_0 hC hc ho hco h0) (zqv_sy hq)
    rw [zjl_none f p R (fun j hj => zthird_no (by
      have hj2 : j < znb C := by rw [zqv_nb hCR]; exact hj
      rw [← zqv_od hCR hj2]
      exact hno j hj2))]
    exact hCR
  intro n
  induction n with
  | zero =>
    intro C f p R hC hR to hq hn hp hpre hf
    refine ⟨base C R f p hC hR hq (fun j hj => ?_), hC⟩
    cases hb : zinc2 c (zod C j) with
    | false => rfl
    | true =>
      obtain ⟨t1, t2, t3, t4, t5⟩ := zinc_I hC hc hj hb
      have := znf_0 (show znf C c = 0 by omega) t1
      omega
  | succ n ih =>
    intro C f p R hC hR to hq hn hp hpre hf
    cases hz : zfst c (zol C) with
    | none =>
      have e1 : zcj c o (n + 1) C = C := by
        unfold zcj
        rw [hz]
      rw [e1]
      exact ⟨base C R f p hC hR hq (zfst_no hz), hC⟩
    | some z =>
      have e1 : zcj c o (n + 1) C = zcj c o n (if zth3 c z = o then zly C c o 0 else zmov C c o (zth3 c z)) := by
        show (match zfst c (zol C) with
          | none => C
          | some z => zcj c o n (if zth3 c z = o then zly C c o 0 else zmov C c o (zth3 c z))) = _
        rw [hz]
      rw [e1]
      obtain ⟨hzi, as, bs, hL, has⟩ := List.find?_eq_some_iff_append.mp hz
      have hzm : z ∈ zol C := by rw [hL]; simp
      obtain ⟨k, hk, hkz⟩ := zol_mem.mp hzm
      rw [← hkz] at hzi
      obtain ⟨t1, t2, t3, t4, t5⟩ := zinc_I hC hc hk hzi
      rw [hkz] at t1 t2 t3 t4 t5
      generalize ht : zth3 c z = t at t1 t2 t3 t4 t5 ⊢
      have hnC := zB_nb hC.1
      by_cases hto : t = o
      · rw [if_pos hto]
        have hC' : zI (zly C c o 0) := zI_ly hC hc ho hco (by omega) (fun a => by omega)
        have h0' : zln (zly C c o 0) c o = 0 := by rw [zly_ln hc ho hc ho, if_pos (Or.inl ⟨rfl, rfl⟩)]
        refine ih _ f p R hC' hR ((zly_un hc ho hnC (by omega)).trans to) (zqv_tr hq (zqv_0 hC' hc ho hco h0')) ?_ hp hpre hf
        have := znf_less (m := C) (m' := zly C c o 0) (c := c) (t := o) ho (by rw [← hto]; exact t4) h0' (fun y hy a => by
          rw [zly_ln hc ho hc hy] at a
          split at a
          · omega
          · exact a)
        omega
      · rw [if_neg hto]
        obtain ⟨hC1, hC2, hC3⟩ := zI_mov hC hc ho t1 t2 (fun e => hto e.symm) to t5
        have hzc : z ≠ zcd c o := by
          rw [t3]
          unfold zcd
          split <;> split <;> omega
        have hLR : zol R = as.filter (fun z => !decide (z = zcd c o)) ++ z :: bs.filter (fun z => !decide (z = zcd c o)) := by
          rw [hq.2.2, zol_er hC hc ho hco, hL, List.filter_append, List.filter_cons_of_pos (by simp [hzc])]
        have has' : ∀ x, x ∈ as.filter (fun z => !decide (z = zcd c o)) → zinc2 c x = false := fun x hx => by
          have := has x (List.mem_filter.mp hx).1
          simpa using this
        generalize as.filter (fun z => !decide (z = zcd c o)) = as' at hLR has'
        generalize bs.filter (fun z => !decide (z = zcd c o)) = bs' at hLR
        have hlen : znb R = as'.length + (bs'.length + 1) := by
          rw [← zol_len R, hLR, List.length_append, List.length_cons]
        have hqR : as'.length < znb R := by omega
        have hzR : zod R as'.length = z := by
          have := zol_at hqR
          rw [hLR, List.getElem?_append_right (Nat.le_refl _), Nat.sub_self] at this
          simpa using this.symm
        have h9R : ∀ j, j < as'.length → zthird R j c = 9 := fun j hj => by
          have := zol_at (show j < znb R by omega)
          rw [hLR, List.getElem?_append_left hj] at this
          exact zthird_no (has' _ (List.mem_of_getElem? this))
        have htR : zthird R as'.length c = t := by
          rw [zthird_yes (by rw [hzR, ← hkz]; exact hzi), hzR, ht]
        generalize as'.length = q at hlen hqR hzR h9R htR
        have hpq : p ≤ q := by
          rcases Nat.lt_or_ge q p with a | a
          · have := hpre q a
            omega
          · exact a
        have hA : zI (zly C c o 0) := zI_ly hC hc ho hco (by omega) (fun a => by omega)
        have h0R : zln R c o = 0 := by
          rw [hq.2.1 c o hc ho, zly_ln hc ho hc ho, if_pos (Or.inl ⟨rfl, rfl⟩)]
        have toR : zof R o 0 = 1 := by
          have := hq.1 (5 * o + 0) (by omega)
          exact this.trans ((zly_un hc ho hnC (by omega)).trans to)
        obtain ⟨w1, w2, w3, w4, w5, w6, w7, w8⟩ := zmov_ok hR hc ho hco h0R toR hqR (by omega)
        rw [htR] at w1 w2 w3 w4 w5 w6 w7 w8
        have e2 : zjl c o f p R = zjl c o (f - (q - p) - 1) q (zmov R c o t) := by
          have e3 := zjl_skip (c := c) (o := o) (f := f - (q - p)) (m := R) (q - p) p (by omega) (fun j a b => h9R j (by omega))
          rw [show f - (q - p) + (q - p) = f by omega, show p + (q - p) = q by omega] at e3
          rw [e3]
          obtain ⟨g, hg⟩ : ∃ g, f - (q - p) = g + 1 := ⟨f - (q - p) - 1, by omega⟩
          rw [hg, Nat.add_sub_cancel]
          show (if znb R ≤ q then R else if zthird R q c = 9 then zjl c o g (q + 1) R else zjl c o g q (zly (zly R c (zthird R q c) 0) o (zthird R q c) (zcap (zln R c (zthird R q c) + zln R o (zthird R q c))))) = _
          rw [if_neg (by omega), if_neg (by omega), htR]
          rfl
        rw [e2]
        refine ih (zmov C c o t) (f - (q - p) - 1) q (zmov R c o t) hC2 w2 ((hC3 (5 * o + 0) (by omega)).trans to) (zqv_tr (zqv_mov hR hA hq hc ho t1 t2 (fun e => hto e.symm)) (zcom hC hc ho t1 hco t2 (fun e => hto e.symm) t4 to t5)) ?_ w6 (fun j hj => by
          rw [zthird_od (w7 j hj)]
          exact h9R j hj) (by omega)
        have hcy : ∀ y, y < 8 → zln (zmov C c o t) c y = if y = t then 0 else zln C c y := fun y hy => by
          unfold zmov
          rw [zly_ln ho t1 hc hy, if_neg (by omega), zly_ln hc t1 hc hy]
          by_cases hyt : y = t
          · rw [if_pos hyt, if_pos (Or.inl ⟨rfl, hyt⟩)]
          · rw [if_neg hyt, if_neg (by omega)]
        have := znf_less (m := C) (m' := zmov C c o t) (c := c) (t := t) t1 t4 (by rw [hcy t t1, if_pos rfl]) (fun y hy a => by
          rw [hcy y hy] at a
          split at a
          · omega
          · exact a)
        omega
/-- the class's way gives the reference's row, but for what lies beyond the order -/
theorem zcj_jr {m : Nat → Nat} (hI : zI m) {c o : Nat} (hc : c < 8) (ho : o < 8) (hco : c ≠ o) (to : zof m o 0 = 1) : zqv (zcj c o 8 m) (zjr m c o) ∧ zI (zcj c o 8 m) := by
  have hR : zI (zly m c o 0) := zI_ly hI hc ho hco (by omega) (fun a => by omega)
  have hn := zB_nb hR.1
  have := znf_le (zly m c o 0) c
  exact zcj_jl hc ho hco 8 m 60 0 (zly m c o 0) hI hR to (zqv_rf _) (znf_le m c) (by omega) (fun j hj => by omega) (by omega)
