/-! join of the class, over rows: what lies beyond the order doesn't count. -/
def zol (m : Nat → Nat) : List Nat := (List.range (znb m)).map (zod m)
def zqv (m m' : Nat → Nat) : Prop := (∀ k, (k < 40 ∨ 133 ≤ k) → m k = m' k) ∧ (∀ a b, a < 8 → b < 8 → zln m a b = zln m' a b) ∧ zol m = zol m'
theorem zqv_rf (m : Nat → Nat) : zqv m m := ⟨fun _ _ => rfl, fun _ _ _ _ => rfl, rfl⟩
theorem zqv_sy {m m' : Nat → Nat} (a : zqv m m') : zqv m' m := ⟨fun k hk => (a.1 k hk).symm, fun x y hx hy => (a.2.1 x y hx hy).symm, a.2.2.symm⟩
theorem zqv_tr {m m' m'' : Nat → Nat} (a : zqv m m') (b : zqv m' m'') : zqv m m'' := ⟨fun k hk => (a.1 k hk).trans (b.1 k hk), fun x y hx hy => (a.2.1 x y hx hy).trans (b.2.1 x y hx hy), a.2.2.trans b.2.2⟩
theorem zol_len (m : Nat → Nat) : (zol m).length = znb m := by simp [zol]
theorem zol_at {m : Nat → Nat} {k : Nat} (hk : k < znb m) : (zol m)[k]? = some (zod m k) := by simp [zol, hk]
theorem zol_mem {m : Nat → Nat} {z : Nat} : z ∈ zol m ↔ ∃ k, k < znb m ∧ zod m k = z := by simp [zol]
theorem zqv_nb {m m' : Nat → Nat} (a : zqv m m') : znb m = znb m' := by
  have := congrArg List.length a.2.2
  rwa [zol_len, zol_len] at this
theorem zqv_od {m m' : Nat → Nat} (a : zqv m m') {k : Nat} (hk : k < znb m) : zod m k = zod m' k := by
  have h1 := zol_at hk
  rw [a.2.2, zol_at (by rw [← zqv_nb a]; exact hk)] at h1
  exact (Option.some.inj h1).symm
theorem zSr_qv {h : zHp} {m m' : Nat → Nat} (hS : zSr h 1 m) (hI : zI m) (hq : zqv m m') : zSr h 1 m' := by
  refine zSr_bd hS (zB_ev hI.1) (fun k hk => (hq.1 k hk).symm) (fun _ _ _ _ => rfl) (by rw [← zqv_nb hq]; exact hS.2.2.2.1) (fun k hk => ?_)
  rw [← zqv_nb hq] at hk
  obtain ⟨lo, hi, p1, p2, p3, p4⟩ := hI.2.2.2.2.2.2.2.1 k hk
  rw [← zqv_od hq hk, ← hq.2.1 _ _ (show zod m k / 10 < 8 by omega) (show zod m k % 10 < 8 by omega)]
  exact hS.2.2.2.2 k hk
theorem zrgf (f g : Nat → Nat) (p : Nat) : ∀ N, p < N → (∀ k, k < N → f k = f p → k = p) → (∀ k, k + 1 < N → g k = if p ≤ k then f (k + 1) else f k) → (List.range (N - 1)).map g = ((List.range N).map f).filter (fun z => !decide (z = f p)) := by
  intro N
  induction N with
  | zero => intro h; omega
  | succ N ih =>
    intro hp hf hg
    rw [List.range_succ, List.map_append, List.filter_append, List.map_cons, List.map_nil, Nat.add_sub_cancel]
    by_cases hq : p = N
    · subst hq
      have e1 : ((List.range p).map f).filter (fun z => !decide (z = f p)) = (List.range p).map f := List.filter_eq_self.mpr (fun z hz => by
        obtain ⟨k, hk, rfl⟩ := List.mem_map.mp hz
        have hk := List.mem_range.mp hk
        have : f k ≠ f p := fun e => by have := hf k (by omega) e; omega
        simp [this])
      rw [e1]
      have e2 : [f p].filter (fun z => !decide (z = f p)) = [] := by simp
      rw [e2, List.append_nil]
      exact List.map_congr_left (fun k hk => by
        have hk := List.mem_range.mp hk
        rw [hg k (by omega), if_neg (by omega)])
    · have hN : f N ≠ f p := fun e => hq (hf N (by omega) e).symm
      have e2 : [f N].filter (fun z => !decide (z = f p)) = [f N] := by simp [hN]
      rw [e2, ← ih (by omega) (fun k hk => hf k (by omega)) (fun k hk => hg k (by omega))]
      have e3 : g (N - 1) = f N := by
        rw [hg (N - 1) (by omega), if_pos (by omega)]
        congr 1
        omega
      have e4 : List.range N = List.range (N - 1) ++ [N - 1] := by
        rw [← List.range_succ]
        congr 1
        omega
      rw [e4, List.map_append, List.map_cons, List.map_nil, e3]
theorem zol_er {m : Nat → Nat} (hI : zI m) {a b : Nat} (ha : a < 8) (hb : b < 8) (hab : a ≠ b) : zol (zly m a b 0) = (zol m).filter (fun z => !decide (z = zcd a b)) := by
  have hn := zB_nb hI.1
  obtain ⟨hB, i1, i2, i3, i4, i5, i6, o1, o2, o3⟩ := id hI
  rcases zplc_I hI ha hb hab with ⟨h0, h1⟩ | ⟨h0, h1, h2, h3⟩
  · have e1 : zly m a b 0 = zm1 m a b 0 := by unfold zly; rw [if_pos h0, if_pos rfl]
    have hnb : znb (zly m a b 0) = znb m := by rw [e1]; exact zm1_un ha hb (by omega)
    have hod : ∀ k, zod (zly m a b 0) k = zod m k := fun k => by rw [e1]; exact zm1_un ha hb (by omega)
    have e2 : zol (zly m a b 0) = zol m := by
      unfold zol
      rw [hnb]
      exact List.map_congr_left (fun k _ => hod k)
    rw [e2]
    refine (List.filter_eq_self.mpr (fun z hz => ?_)).symm
    obtain ⟨k, hk, rfl⟩ := zol_mem.mp hz
    obtain ⟨lo, hi, p1, p2, p3, p4⟩ := o1 k hk
    have : zod m k ≠ zcd a b := fun e => by
      rcases (zcd_eq ha hb hab p1 p2).mp (by omega) with ⟨q1, q2⟩ | ⟨q1, q2⟩
      · rw [q1, q2] at h0
        omega
      · rw [q1, q2, i3 _ _ p2 (by omega)] at h0
        omega
    simp [this]
  · have e1 : zly m a b 0 = zers (zm1 m a b 0) (zplc m (zcd a b) 0 (znb m)) := by unfold zly; rw [if_neg (by omega), if_pos rfl, h3]
    have em : znb (zm1 m a b 0) = znb m := zm1_un ha hb (by omega)
    have hnb : znb (zly m a b 0) = znb m - 1 := zly_nb_er ha hb hn (by omega)
    generalize zplc m (zcd a b) 0 (znb m) = p at h1 h2 h3 e1
    have hod : ∀ k, k + 1 < znb m → zod (zly m a b 0) k = if p ≤ k then zod m (k + 1) else zod m k := fun k hk => by
      rw [e1]
      unfold zod zers zsf
      rw [em]
      by_cases hq : p ≤ k
      · rw [if_pos hq, if_pos (by omega), zu_ne _ (by omega), zm1_un ha hb (by omega)]
        rfl
      · rw [if_neg hq, if_neg (by omega), zu_ne _ (by omega), zm1_un ha hb (by omega)]
    unfold zol
    rw [hnb, ← h2]
    exact zrgf (zod m) (zod (zly m a b 0)) p (znb m) h1 (fun k hk he => o2 k p hk h1 he) hod
theorem zol_up {m : Nat → Nat} (hI : zI m) {a b len : Nat} (ha : a < 8) (hb : b < 8) (hab : a ≠ b) (hl : len ≠ 0) : zol (zly m a b len) = if zln m a b = 0 then zol m ++ [zcd a b] else zol m := by
  have hn := zB_nb hI.1
  obtain ⟨hB, i1, i2, i3, i4, i5, i6, hO⟩ := id hI
  by_cases h0 : zln m a b = 0
  · have h28 := zroom28 hO i3 ha hb hab h0
    have e1 : zly m a b len = zu (zu (zm1 m a b len) (104 + znb m) (zcd a b)) 132 (znb m + 1) := by unfold zly; rw [if_pos h0, if_neg hl]
    have hnb : znb (zly m a b len) = znb m + 1 := by rw [e1]; exact zu_same _ _ _
    have hodn : zod (zly m a b len) (znb m) = zcd a b := by
      rw [e1]
      unfold zod
      rw [zu_ne _ (by omega), zu_same]
    rw [if_pos h0]
    unfold zol
    rw [hnb, List.range_succ, List.map_append, List.map_cons, List.map_nil, hodn]
    congr 1
    exact List.map_congr_left (fun k hk => by
      have hk := List.mem_range.mp hk
      rw [e1]
      unfold zod
      rw [zu_ne _ (by omega), zu_ne _ (by omega)]
      exact zm1_un ha hb (by omega))
  · have e1 : zly m a b len = zm1 m a b len := by unfold zly; rw [if_neg h0, if_neg hl]
    have hnb : znb (zly m a b len) = znb m := by rw [e1]; exact zm1_un ha hb (by omega)
    rw [if_neg h0]
    unfold zol
    rw [hnb]
    exact List.map_congr_left (fun k hk => by
      rw [e1]
      exact zm1_un ha hb (by omega))
theorem zqv_ly {m m' : Nat → Nat} (hI : zI m) (hI' : zI m') (hq : zqv m m') {a b len : Nat} (ha : a < 8) (hb : b < 8) (hab : a ≠ b) : zqv (zly m a b len) (zly m' a b len) := by
  refine ⟨fun k hk => ?_, fun x y hx hy => ?_, ?_⟩
  · rw [zly_un ha hb (zB_nb hI.1) hk, zly_un ha hb (zB_nb hI'.1) hk, hq.1 k hk]
  · rw [zly_ln ha hb hx hy, zly_ln ha hb hx hy, hq.2.1 x y hx hy]
  · by_cases hl : len = 0
    · subst hl
      rw [zol_er hI ha hb hab, zol_er hI' ha hb hab, hq.2.2]
    · rw [zol_up hI ha hb hab hl, zol_up hI' ha hb hab hl, hq.2.2, hq.2.1 a b ha hb]
theorem zqv_0 {m : Nat → Nat} (hI : zI m) {a b : Nat} (ha : a < 8) (hb : b < 8) (hab : a ≠ b) (h0 : zln m a b = 0) : zqv m (zly m a b 0) := by
  obtain ⟨hB, i1, i2, i3, i4, i5, i6, o1, o2, o3⟩ := id hI
  refine ⟨fun k hk => (zly_un ha hb (zB_nb hB) hk).symm, fun x y hx hy => ?_, ?_⟩
  · rw [zly_ln ha hb hx hy]
    split
    · rename_i hq
      rcases hq with ⟨rfl, rfl⟩ | ⟨rfl, rfl⟩
      · exact h0
      · rw [i3 _ _ hx hy]; exact h0
    · rfl
  · rw [zol_er hI ha hb hab]
    refine (List.filter_eq_self.mpr (fun z hz => ?_)).symm
    obtain ⟨k, hk, rfl⟩ := zol_mem.mp hz
    obtain ⟨lo, hi, p1, p2, p3, p4⟩ := o1 k hk
    have : zod m k ≠ zcd a b := fun e => by
      rcases (zcd_eq ha hb hab p1 p2).mp (by omega) with ⟨q1, q2⟩ | ⟨q1, q2⟩
      · rw [q1, q2] at h0
        omega
      · rw [q1, q2, i3 _ _ p2 (by omega)] at h0
        omega
    simp [this]
theorem zI_mov {m : Nat → Nat} (hI : zI m) {c o t : Nat} (hc : c < 8) (ho : o < 8) (ht : t < 8) (hct : c ≠ t) (hot : o ≠ t) (to : zof m o 0 = 1) (tt : zof m t 0 = 1) : zI (zly m c t 0) ∧ zI (zmov m c o t) ∧ ∀ k, k < 40 → zmov m c o t k = m k := by
  have hn := zB_nb hI.1
  have h2 : zI (zly m c t 0) := zI_ly hI hc ht hct (by omega) (fun a => by omega)
  have h40 : ∀ k, k < 40 → zly m c t 0 k = m k := fun k hk => zly_un hc ht hn (by omega)
  exact ⟨h2, zI_ly h2 ho ht hot (zcap_le _) (fun _ => ⟨(h40 (5 * o + 0) (by omega)).trans to, (h40 (5 * t + 0) (by omega)).trans tt⟩), fun k hk => (zly_un ho ht (zB_nb h2.1) (by omega)).trans (h40 k hk)⟩
theorem zqv_mov {m m' : Nat → Nat} (hI : zI m) (hI' : zI m') (hq : zqv m m') {c o t : Nat} (hc : c < 8) (ho : o < 8) (ht : t < 8) (hct : c ≠ t) (hot : o ≠ t) : zqv (zmov m c o t) (zmov m' c o t) := by
  have h2 : zI (zly m c t 0) := zI_ly hI hc ht hct (by omega) (fun a => by omega)
  have h3 : zI (zly m' c t 0) := zI_ly hI' hc ht hct (by omega) (fun a => by omega)
  unfold zmov
  rw [hq.2.1 c t hc ht, hq.2.1 o t ho ht]
  exact zqv_ly h2 h3 (zqv_ly hI hI' hq hc ht hct) ho ht hot
theorem zcap_ne {n : Nat} (h : n ≠ 0) : zcap n ≠ 0 := by unfold zcap; split <;> omega
/-- the border between both taken away before or after -/
theorem zcom {m : Nat → Nat} (hI : zI m) {c o t : Nat} (hc : c < 8) (ho : o < 8) (ht : t < 8) (hco : c ≠ o) (hct : c ≠ t) (hot : o ≠ t) (h0 : 0 < zln m c t) (to : zof m o 0 = 1) (tt : zof m t 0 = 1) : zqv (zmov (zly m c o 0) c o t) (zly (zmov m c o t) c o 0) := by
  have hn := zB_nb hI.1
  have hA : zI (zly m c o 0) := zI_ly hI hc ho hco (by omega) (fun a => by omega)
  have a40 : ∀ k, k < 40 → zly m c o 0 k = m k := fun k hk => zly_un hc ho hn (by omega)
  obtain ⟨hA1, hA2, _⟩ := zI_mov hA hc ho ht hct hot ((a40 (5 * o + 0) (by omega)).trans to) ((a40 (5 * t + 0) (by omega)).trans tt)
  obtain ⟨hB1, hB2, _⟩ := zI_mov hI hc ho ht hct hot to tt
  have v1 : zln (zly m c o 0) c t = zln m c t := by rw [zly_ln hc ho hc ht, if_neg (by omega)]
  have v2 : zln (zly m c o 0) o t = zln m o t := by rw [zly_ln hc ho ho ht, if_neg (by omega)]
  have v3 : zln (zly m c t 0) o t = zln m o t := by rw [zly_ln hc ht ho ht, if_neg (by omega)]
  have v4 : zln (zly (zly m c o 0) c t 0) o t = zln m o t := by rw [zly_ln hc ht ho ht, if_neg (by omega), v2]
  have hV : zcap (zln m c t + zln m o t) ≠ 0 := zcap_ne (by omega)
  have nA := zB_nb hA.1
  have nA1 := zB_nb hA1.1
  have nB1 := zB_nb hB1.1
  have nB2 := zB_nb hB2.1
  have eA : zmov (zly m c o 0) c o t = zly (zly (zly m c o 0) c t 0) o t (zcap (zln m c t + zln m o t)) := by
    unfold zmov
    rw [v1, v2]
  refine ⟨fun k hk => ?_, fun x y hx hy => ?_, ?_⟩
  · rw [eA, zly_un ho ht nA1 hk, zly_un hc ht nA hk, zly_un hc ho hn hk, zly_un hc ho nB2 hk]
    unfold zmov
    rw [zly_un ho ht nB1 hk, zly_un hc ht hn hk]
  · rw [eA, zly_ln ho ht hx hy, zly_ln hc ht hx hy, zly_ln hc ho hx hy, zly_ln hc ho hx hy]
    unfold zmov
    rw [zly_ln ho ht hx hy, zly_ln hc ht hx hy]
    by_cases q1 : (x = c ∧ y = o) ∨ (x = o ∧ y = c)
    · rw [if_pos q1, if_pos q1, if_neg (by omega), if_neg (by omega)]
    · rw [if_neg q1, if_neg q1]
  · have e1 : zcd o t ≠ zcd c o := by
      unfold zcd
      split <;> split <;> omega
    rw [eA, zol_er hB2 hc ho hco, zol_up hA1 ho ht hot hV, zol_er hA hc ht hct, zol_er hI hc ho hco, v4]
    unfold zmov
    rw [zol_up hB1 ho ht hot hV, zol_er hI hc ht hct, v3]
    have e2 : ((zol m).filter (fun z => !decide (z = zcd c o))).filter (fun z => !decide (z = zcd c t)) = ((zol m).filter (fun z => !decide (z = zcd c t))).filter (fun z => !decide (z = zcd c o)) := by
      rw [List.filter_filter, List.filter_filter]
      congr 1
      funext z
      exact Bool.and_comm _ _
    rw [e2]
    by_cases hz : zln m o t = 0
    · rw [if_pos hz, if_pos hz, List.filter_append]
      congr 1
      simp [e1]
    · rw [if_neg hz, if_neg hz]
