/-! findLeast of the class: what every level needs. -/
def zpc (m p : Nat → Nat) (i : Nat) : Nat := zsum (fun c => if zt m c = true ∧ p c ≠ zof m c 1 then zof m c 3 else 0) 0 i
theorem zpc_s (m p : Nat → Nat) (i : Nat) : zpc m p (i + 1) = zpc m p i + (if zt m i = true ∧ p i ≠ zof m i 1 then zof m i 3 else 0) := by
  unfold zpc
  rw [zsum_app _ i 0 1]
  simp only [zsum, Nat.zero_add, Nat.add_zero]
theorem zpc_congr {m p q : Nat → Nat} {i : Nat} (h : ∀ c, c < i → p c = q c) : zpc m p i = zpc m q i := zsum_congr i 0 (fun c _ hc => by
  show (if zt m c = true ∧ p c ≠ zof m c 1 then zof m c 3 else 0) = _
  rw [h c (by omega)])
theorem zpc_cost {m : Nat → Nat} (hB : zB m) (p : Nat → Nat) : zpc m p 8 = zcost m p := by
  have he := zB_ev hB
  unfold zpc zcost
  have e2 := zsum_app (fun c => if zt m c = true ∧ p c ≠ zof m c 1 then zof m c 3 else 0) (zev8 m) 0 (8 - zev8 m)
  rw [show zev8 m + (8 - zev8 m) = 8 by omega] at e2
  have e3 := (zsum_0 (f := fun c => if zt m c = true ∧ p c ≠ zof m c 1 then zof m c 3 else 0) (8 - zev8 m) (0 + zev8 m)).mpr (fun j j1 j2 => by
    show (if zt m j = true ∧ p j ≠ zof m j 1 then zof m j 3 else 0) = 0
    rw [zt_no (by omega), if_neg (fun e => by cases e.1)])
  omega
theorem zpc_mono (m p : Nat → Nat) {i k : Nat} (h : i ≤ k) : zpc m p i ≤ zpc m p k := by
  unfold zpc
  have := zsum_app (fun c => if zt m c = true ∧ p c ≠ zof m c 1 then zof m c 3 else 0) i 0 (k - i)
  rw [show i + (k - i) = k by omega] at this
  omega
theorem zpc_le {m : Nat → Nat} (hB : zB m) (p : Nat → Nat) {i : Nat} (hi : i ≤ 8) : zpc m p i ≤ 792 := Nat.le_trans (zpc_mono m p hi) (by rw [zpc_cost hB]; exact zcost_le hB p)
theorem zbst_keep {m q : Nat → Nat} : ∀ (L : List (Nat → Nat)), (∀ r, r ∈ L → zcost m q ≤ zcost m r) → L.foldl (zbst m) (some q) = some q := by
  intro L
  induction L with
  | nil => intro _; rfl
  | cons r L ih =>
    intro h
    have h1 := h r List.mem_cons_self
    show L.foldl (zbst m) (zbst m (some q) r) = some q
    have e : zbst m (some q) r = some q := by
      show (if zcost m r < zcost m q then some r else some q) = some q
      rw [if_neg (by omega)]
    rw [e]
    exact ih (fun r hr => h r (List.mem_cons_of_mem _ hr))
/-- the repainter in the heap -/
def zRP (h : zHp) (m op nb : Nat → Nat) : Prop := zSr h 63 m ∧ (∀ c, c < 8 → zt m c = true → h 72 c = nI (op c)) ∧ ∀ c, c < 8 → zt m c = true → h 73 c = nI (nb c)
theorem zRP_fr {h h' : zHp} {m op nb : Nat → Nat} (hR : zRP h m op nb) (hf : ∀ b j, 63 ≤ b → b < 74 → h' b j = h b j) : zRP h' m op nb := ⟨zSr_fr hR.1 (fun b j x y => hf b j (by omega) (by omega)), fun c hc ht => by rw [hf _ _ (by omega) (by omega)]; exact hR.2.1 c hc ht, fun c hc ht => by rw [hf _ _ (by omega) (by omega)]; exact hR.2.2 c hc ht⟩
theorem zn_cof1 {h : zHp} {m op nb p : Nat → Nat} (hR : zRP h m op nb) (hN : zNC m op nb) {i : Nat} (hi : i < 8) (ht : zt m i = true) (hT : ∀ o, o < i → (nb i).testBit o = true → h 74 o = nI (p o) ∧ p o < 4) : ∀ (n k X : Nat), k + n = i → X < 256 → zr_103 9 [some (.inr 62), some (.inl (nI i)), some (.inl (nI X)), some (.inl (nI k))] [] h = some (some (nI (zcfl m (nb i) p k n X)), h) := by
  obtain ⟨n1, n2, n3⟩ := hN i hi ht
  intro n
  induction n with
  | zero =>
    intro k X hk hX
    rw [zb_103_9, zS_cge (by omega) (by omega), decide_eq_true (by omega), if_pos rfl]
    rfl
  | succ n ih =>
    intro k X hk hX
    have es : zcfl m (nb i) p k (n + 1) X = zcfl m (nb i) p (k + 1) n (if (nb i).testBit k = true then X &&& (255 ^^^ zfbs m (p k)) else X) := rfl
    rw [es, zb_103_9, zS_cge (by omega) (by omega), decide_eq_false (by omega), if_neg (by decide), zS_ib _ (by omega), decide_eq_true hi, if_pos rfl, zS_cl (by omega), hR.2.2 i hi ht, zn_has h n2 (by omega)]
    simp only [Option.bind_some, zpush]
    rw [zb_103_24, zS_b0, zS_add]
    cases h1 : (nb i).testBit k with
    | false =>
      rw [if_pos (by decide), if_neg (by decide)]
      exact ih (k + 1) X (by omega) hX
    | true =>
      obtain ⟨c1, c2⟩ := hT k (by omega) h1
      have h67 : h 67 (p k) = nI (zfbs m (p k)) := hR.1.2.2.1 (p k) c2
      rw [if_neg (by decide), if_pos rfl, zS_ib _ (show k < 2147483648 by omega), decide_eq_true (show k < 8 by omega), if_pos rfl, zS_cl (show k < 2147483648 by omega), c1, zS_ib _ (by omega), decide_eq_true c2, if_pos rfl, zS_cl (by omega), h67, zS_clr _ hX]
      exact ih (k + 1) _ (by omega) (zclr_lt _ hX)
theorem zn_cof {h : zHp} {m op nb p : Nat → Nat} (hR : zRP h m op nb) (hN : zNC m op nb) {i : Nat} (hi : i < 8) (ht : zt m i = true) (hT : ∀ o, o < i → (nb i).testBit o = true → h 74 o = nI (p o) ∧ p o < 4) : zM_103 [.inr 62, .inl (nI i)] h = some (some (nI (zcof m op nb i p)), h) := by
  obtain ⟨n1, n2, n3⟩ := hN i hi ht
  rw [ze_103, zS_ib _ (by omega), decide_eq_true hi, if_pos rfl, zS_cl (by omega), hR.2.1 i hi ht, zn_cof1 hR hN hi ht hT i 0 (op i) (by omega) (by omega)]
  rfl
theorem zcof_lt {m op nb : Nat → Nat} (hN : zNC m op nb) {i : Nat} (hi : i < 8) (ht : zt m i = true) (p : Nat → Nat) : zcof m op nb i p < 16 := Nat.lt_of_le_of_lt (zcfl_le _ _ _) (hN i hi ht).1
def zTf (h : zHp) (m : Nat → Nat) (i : Nat) (p : Nat → Nat) : Prop := ∀ o, o < i → zt m o = true → h 74 o = nI (p o) ∧ p o < 4
def zBs (h : zHp) (m : Nat → Nat) (b : Option (Nat → Nat)) : Prop := h 62 6 = nI b.isSome.toNat ∧ ∀ q, b = some q → h 62 5 = nI (zcost m q) ∧ ∀ c, c < 8 → zt m c = true → h 75 c = nI (q c)
def zKl (i : Nat) (h h' : zHp) : Prop := (∀ x j, x ≠ 62 → x ≠ 75 → ¬ (x = 74 ∧ i ≤ j) → h' x j = h x j) ∧ ∀ j, j ≠ 5 → j ≠ 6 → h' 62 j = h 62 j
theorem zKl_rf (i : Nat) (h : zHp) : zKl i h h := ⟨fun _ _ _ _ _ => rfl, fun _ _ _ => rfl⟩
theorem zKl_tr {i : Nat} {h h' h'' : zHp} (a : zKl i h h') (b : zKl i h' h'') : zKl i h h'' := ⟨fun x j u v w => (b.1 x j u v w).trans (a.1 x j u v w), fun j u v => (b.2 j u v).trans (a.2 j u v)⟩
theorem zKl_up {i : Nat} {h h' : zHp} (a : zKl (i + 1) h h') : zKl i h h' := ⟨fun x j u v w => a.1 x j u v (fun e => w ⟨e.1, by omega⟩), a.2⟩
theorem zKl_74 {i : Nat} {h h' : zHp} {y : Int32} (a : zKl (i + 1) (zup h 74 i y) h') : zKl i h h' := ⟨fun x j u v w => by
  rw [a.1 x j u v (fun e => w ⟨e.1, by omega⟩)]
  unfold zup
  rw [if_neg (by omega)], fun j u v => by rw [a.2 j u v, zS_zup_ne _ (by omega)]⟩
theorem zTf_kl {i : Nat} {h h' : zHp} {m p : Nat → Nat} (hT : zTf h m i p) (hK : zKl i h h') : zTf h' m i p := fun o ho ht => by
  rw [hK.1 74 o (by omega) (by omega) (by omega)]
  exact hT o ho ht
theorem zTf_s {i : Nat} {h : zHp} {m p : Nat → Nat} (hT : zTf h m i p) {v : Nat} (hv : v < 4) : zTf (zup h 74 i (nI v)) m (i + 1) (zu p i v) := fun o ho ht => by
  by_cases hoi : o = i
  · rw [hoi, zS_zup_same, zu_same]
    exact ⟨rfl, hv⟩
  · rw [zS_zup_nk _ _ hoi, zu_ne _ hoi]
    exact hT o (by omega) ht
theorem zTf_n {i : Nat} {h : zHp} {m p : Nat → Nat} (hT : zTf h m i p) (ht : zt m i = false) (v : Nat) : zTf h m (i + 1) (zu p i v) := fun o ho hto => by
  by_cases hoi : o = i
  · rw [hoi, ht] at hto
    cases hto
  · rw [zu_ne _ hoi]
    exact hT o (by omega) hto
theorem zRP_kl {i : Nat} {h h' : zHp} {m op nb : Nat → Nat} (hR : zRP h m op nb) (hK : zKl i h h') : zRP h' m op nb := zRP_fr hR (fun b j x y => hK.1 b j (by omega) (by omega) (by omega))
theorem zRP_74 {i : Nat} {h : zHp} {m op nb : Nat → Nat} (hR : zRP h m op nb) (y : Int32) : zRP (zup h 74 i y) m op nb := zRP_fr hR (fun b j _ _ => zS_zup_ne _ (by omega) _ _ _)
theorem zBs_74 {i : Nat} {h : zHp} {m : Nat → Nat} {b : Option (Nat → Nat)} (hb : zBs h m b) (y : Int32) : zBs (zup h 74 i y) m b := ⟨by rw [zS_zup_ne _ (by omega)]; exact hb.1, fun q hq => ⟨by rw [zS_zup_ne _ (by omega)]; exact (hb.2 q hq).1, fun c hc ht => by rw [zS_zup_ne _ (by omega)]; exact (hb.2 q hq).2 c hc ht⟩⟩
/-- a level of findLeast -/
def zFL (m op nb : Nat → Nat) (k : Nat) (f : List zV → zHp → zRs) : Prop := ∀ (i : Nat) (p : Nat → Nat) (h : zHp) (b : Option (Nat → Nat)), i + k = 8 → zRP h m op nb → zTf h m i p → zBs h m b → ∃ h', f [.inr 62, .inl (nI i), .inl (nI (zpc m p i))] h = some (none, h') ∧ zBs h' m ((zgs m op nb k i p).foldl (zbst m) b) ∧ zKl i h h'
theorem zprune {m op nb p q : Nat → Nat} (hB : zB m) {k i : Nat} (hi : i ≤ 8) (h : zcost m q ≤ zpc m p i) : (zgs m op nb k i p).foldl (zbst m) (some q) = some q := zbst_keep _ (fun r hr => by
  have h1 := ((zgs_mem k i p r).mp hr).1
  rw [← zpc_cost hB r]
  refine Nat.le_trans h ?_
  rw [zpc_congr (q := r) (fun c hc => (h1 c (by omega)).symm)]
  exact zpc_mono m r hi)
theorem zfl_105 {m op nb : Nat → Nat} (hI : zI m) : zFL m op nb 0 zM_105 := by
  intro i p h b hik hR hT hb
  have hi : i = 8 := by omega
  subst hi
  have hB := hI.1
  have c1 := zpc_le hB p (i := 8) (by omega)
  have ec := zpc_cost hB p
  show ∃ h', _ ∧ zBs h' m (zbst m b p) ∧ _
  by_cases hpr : ∃ q, b = some q ∧ zcost m q ≤ zpc m p 8
  · obtain ⟨q, rfl, hq⟩ := hpr
    have c2 := zcost_le hB q
    have e6 : h 62 6 = nI 1 := hb.1
    refine ⟨h, ?_, ?_, zKl_rf _ _⟩
    · rw [ze_105, e6, if_neg (by decide), (hb.2 q rfl).1, zS_clt (by omega) (by omega), decide_eq_false (by omega), if_neg (by decide)]
    · show zBs h m (if zcost m p < zcost m q then some p else some q)
      rw [if_neg (by omega)]
      exact hb
  · have e1 : zbst m b p = some p := by
      cases b with
      | none => rfl
      | some q =>
        show (if zcost m p < zcost m q then some p else some q) = some p
        rw [if_pos]
        rcases Nat.lt_or_ge (zcost m p) (zcost m q) with a | a
        · exact a
        · exact absurd ⟨q, rfl, by omega⟩ hpr
    have go : zM_105 [.inr 62, .inl (nI 8), .inl (nI (zpc m p 8))] h = some (none, zup (zup (zcp h 74 75 0 0 8) 62 5 (nI (zpc m p 8))) 62 6 (nI 1)) := by
      rw [ze_105]
      cases b with
      | none =>
        have e6 : h 62 6 = nI 0 := hb.1
        rw [e6, if_pos (by decide), if_neg (by decide), zS_bo1, if_pos rfl]
      | some q =>
        have e6 : h 62 6 = nI 1 := hb.1
        have c2 := zcost_le hB q
        have : zpc m p 8 < zcost m q := by
          rcases Nat.lt_or_ge (zpc m p 8) (zcost m q) with a | a
          · exact a
          · exact absurd ⟨q, rfl, a⟩ hpr
        rw [e6, if_neg (by decide), (hb.2 q rfl).1, zS_clt (by omega) (by omega), decide_eq_true this, if_pos rfl, if_neg (by decide), zS_bo1, if_pos rfl]
    rw [e1]
    refine ⟨_, go, ⟨zS_zup_same _ _ _ _, fun q hq => ?_⟩, ⟨fun x j u v w => ?_, fun j u v => ?_⟩⟩
    · have hq := Option.some.inj hq
      subst hq
      refine ⟨by rw [zS_zup_nk _ _ (by omega), zS_zup_same, ec], fun c hc ht => ?_⟩
      rw [zS_zup_ne _ (by omega), zS_zup_ne _ (by omega), zcpi _ hc]
      exact (hT c hc ht).1
    · rw [zS_zup_ne _ u, zS_zup_ne _ u, zcpn _ v]
    · rw [zS_zup_nk _ _ v, zS_zup_nk _ _ u, zcpn _ (by omega)]
