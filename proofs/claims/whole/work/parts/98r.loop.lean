/-! one call of the law, and its loop (printed by gen98r.py) -/
/-- what holds between the calls: both heaps show one state -/
def zLI (h : zHp) : Prop := ∃ (m : Nat → Nat) (hs : List (Nat → Nat)) (sn : Option (Nat → Nat)) (tx : List Nat), zMV h m hs sn tx ∧ zCV h m hs sn tx ∧ zI m ∧ (∀ y, y ∈ hs → zI y) ∧ (∀ y, sn = some y → zI y) ∧ ∀ x, x ∈ tx → x < 65536
theorem zMV_hi {h h' : zHp} {m : Nat → Nat} {hs : List (Nat → Nat)} {sn : Option (Nat → Nat)} {tx : List Nat} (hV : zMV h m hs sn tx) (hh : zhi h h') : zMV h' m hs sn tx := zMV_keep hV (fun j => hh 77 (by omega) j) (fun j => hh 78 (by omega) j) (fun j => hh 79 (by omega) j) (fun j => hh 83 (by omega) j) (fun j _ => hh 76 (by omega) j)
theorem zCV_lo {h h' : zHp} {m : Nat → Nat} {hs : List (Nat → Nat)} {sn : Option (Nat → Nat)} {tx : List Nat} (hV : zCV h m hs sn tx) (hl : zlo h h') : zCV h' m hs sn tx := zCV_se hV (fun b j hb => hl b (by omega) j)
theorem zph_mem {hs : List (Nat → Nat)} {m y : Nat → Nat} (h : y ∈ zph hs m) : y ∈ hs ∨ y = m := by
  unfold zph at h
  rw [List.mem_append, List.mem_singleton] at h
  rcases h with h | h
  · left
    split at h
    · exact List.mem_of_mem_tail h
    · exact h
  · exact Or.inr h
theorem zlast {α : Type} : ∀ l : List α, l = [] ∨ ∃ (k : List α) (y : α), l = k ++ [y] := by
  intro l
  induction l with
  | nil => exact Or.inl rfl
  | cons a t ih =>
    right
    rcases ih with e | ⟨k, y, e⟩
    · exact ⟨[], a, by rw [e]; rfl⟩
    · exact ⟨a :: k, y, by rw [e]; rfl⟩
theorem zstA {f g : zHp → zRs} {r : Int32 × Option (Nat → Nat)} {h : zHp} {m : Nat → Nat} {hs : List (Nat → Nat)} {sn : Option (Nat → Nat)} {tx : List Nat} (hV : zMV h m hs sn tx) (hI : zI m) (hH : ∀ y, y ∈ hs → zI y) (hN : ∀ y, sn = some y → zI y) (hT : ∀ x, x ∈ tx → x < 65536) (hC : zCAns f r h m hs sn tx) (hM : ∀ h1, zMV h1 m hs sn tx → zAns g r h1 m hs sn tx) (hI' : ∀ m', r.2 = some m' → zI m') : ∃ h1 h2, f h = some (some r.1, h1) ∧ g h1 = some (some r.1, h2) ∧ zLI h2 := by
  obtain ⟨h1, c1, c2, c3⟩ := hC
  obtain ⟨h2, d1, d2, d3⟩ := hM h1 (zMV_hi hV c3)
  refine ⟨h1, h2, c1, d1, ?_⟩
  rcases r with ⟨a, _ | m'⟩
  · exact ⟨m, hs, sn, tx, d2, zCV_lo c2 d3, hI, hH, hN, hT⟩
  · refine ⟨m', zph hs m, sn, tx, d2, zCV_lo c2 d3, hI' m' rfl, fun y hy => ?_, hN, hT⟩
    rcases zph_mem hy with e | e
    · exact hH y e
    · rw [e]; exact hI
theorem zstB {f g : zHp → zRs} {a : Int32} {h : zHp} {m m' : Nat → Nat} {hs hs' : List (Nat → Nat)} {sn sn' : Option (Nat → Nat)} {tx tx' : List Nat} (hV : zMV h m hs sn tx) (hC : ∃ h1, f h = some (some a, h1) ∧ zCV h1 m' hs' sn' tx' ∧ zhi h h1) (hM : ∀ h1, zMV h1 m hs sn tx → ∃ h2, g h1 = some (some a, h2) ∧ zMV h2 m' hs' sn' tx' ∧ zlo h1 h2) (hI : zI m') (hH : ∀ y, y ∈ hs' → zI y) (hN : ∀ y, sn' = some y → zI y) (hT : ∀ x, x ∈ tx' → x < 65536) : ∃ h1 h2, f h = some (some a, h1) ∧ g h1 = some (some a, h2) ∧ zLI h2 := by
  obtain ⟨h1, c1, c2, c3⟩ := hC
  obtain ⟨h2, d1, d2, d3⟩ := hM h1 (zMV_hi hV c3)
  exact ⟨h1, h2, c1, d1, m', hs', sn', tx', d2, zCV_lo c2 d3, hI, hH, hN, hT⟩
theorem zceq (x : Int32) : zci .eq x x = true := decide_eq_true rfl
def zLs4 (i : Nat) : zLs := [some (.inr 84), some (.inr 0), some (.inr 76), some (.inl (nI i))]
/-- the goal of a case -/
def zCs (L : Nat) (xs : Nat → Int32) (k i : Nat) (h : zHp) : Prop := ∃ h2, zr_171 L xs 32 [some (.inr 84), some (.inr 0), some (.inr 76), some (.inl (nI i))] [.inl (nI k)] h = zr_171 L xs 938 [some (.inr 84), some (.inr 0), some (.inr 76), some (.inl (nI i))] [] h2 ∧ zLI h2
theorem zlw_0 {L : Nat} {xs : Nat → Int32} (hL : L ≤ 2560) {i : Nat} (hi : i + 5 ≤ L) {h : zHp} (hLI : zLI h) : zCs L xs 0 i h := by
  obtain ⟨m, hs, sn, tx, hV, hC, hI, hH, hN, hT⟩ := hLI
  obtain ⟨h1, h2, e1, e2, e3⟩ := zstA (f := zM_68 [.inr 0, .inl (xs (i + 1)), .inl (xs (i + 2))]) (g := zM_4 [.inr 76, .inl (xs (i + 1)), .inl (xs (i + 2))]) hV hI hH hN hT (zn_add hC hI (xs (i + 1)) (xs (i + 2))) (fun h1 hV => zm_add hV hI (xs (i + 1)) (xs (i + 2))) (fun m' hm => zI_add hI (xs (i + 1)) (xs (i + 2)) m' hm)
  refine ⟨h2, ?_, e3⟩
  rw [zb_171_32_c0, zS_add, zS_add, zS_ib _ (show i + 1 < 2147483648 by omega), decide_eq_true (show i + 1 < L by omega), zS_ib _ (show i + 2 < 2147483648 by omega), decide_eq_true (show i + 2 < L by omega), if_pos rfl, if_pos rfl, zS_cl (show i + 1 < 2147483648 by omega), zS_cl (show i + 2 < 2147483648 by omega), e1]
  simp only [Option.bind_some, zpush]
  rw [zb_171_174, zS_add, zS_add, zS_ib _ (show i + 1 < 2147483648 by omega), decide_eq_true (show i + 1 < L by omega), zS_ib _ (show i + 2 < 2147483648 by omega), decide_eq_true (show i + 2 < L by omega), if_pos rfl, if_pos rfl, zS_cl (show i + 1 < 2147483648 by omega), zS_cl (show i + 2 < 2147483648 by omega), e2]
  simp only [Option.bind_some, zpush]
  rw [zb_171_188, zceq, if_pos rfl]
theorem zlw_1 {L : Nat} {xs : Nat → Int32} (hL : L ≤ 2560) {i : Nat} (hi : i + 5 ≤ L) {h : zHp} (hLI : zLI h) : zCs L xs 1 i h := by
  obtain ⟨m, hs, sn, tx, hV, hC, hI, hH, hN, hT⟩ := hLI
  obtain ⟨h1, h2, e1, e2, e3⟩ := zstA (f := zM_77 [.inr 0, .inl (xs (i + 1)), .inl (xs (i + 2))]) (g := zM_14 [.inr 76, .inl (xs (i + 1)), .inl (xs (i + 2))]) hV hI hH hN hT (zn_paint hC hI (xs (i + 1)) (xs (i + 2))) (fun h1 hV => zm_paint hV hI (xs (i + 1)) (xs (i + 2))) (fun m' hm => zI_paint hI (xs (i + 1)) (xs (i + 2)) m' hm)
  refine ⟨h2, ?_, e3⟩
  rw [zb_171_32_c1, zS_add, zS_add, zS_ib _ (show i + 1 < 2147483648 by omega), decide_eq_true (show i + 1 < L by omega), zS_ib _ (show i + 2 < 2147483648 by omega), decide_eq_true (show i + 2 < L by omega), if_pos rfl, if_pos rfl, zS_cl (show i + 1 < 2147483648 by omega), zS_cl (show i + 2 < 2147483648 by omega), e1]
  simp only [Option.bind_some, zpush]
  rw [zb_171_207, zS_add, zS_add, zS_ib _ (show i + 1 < 2147483648 by omega), decide_eq_true (show i + 1 < L by omega), zS_ib _ (show i + 2 < 2147483648 by omega), decide_eq_true (show i + 2 < L by omega), if_pos rfl, if_pos rfl, zS_cl (show i + 1 < 2147483648 by omega), zS_cl (show i + 2 < 2147483648 by omega), e2]
  simp only [Option.bind_some, zpush]
  rw [zb_171_221, zceq, if_pos rfl]
theorem zlw_2 {L : Nat} {xs : Nat → Int32} (hL : L ≤ 2560) {i : Nat} (hi : i + 5 ≤ L) {h : zHp} (hLI : zLI h) : zCs L xs 2 i h := by
  obtain ⟨m, hs, sn, tx, hV, hC, hI, hH, hN, hT⟩ := hLI
  obtain ⟨h1, h2, e1, e2, e3⟩ := zstA (f := zM_78 [.inr 0, .inl (xs (i + 1)), .inl (xs (i + 2))]) (g := zM_15 [.inr 76, .inl (xs (i + 1)), .inl (xs (i + 2))]) hV hI hH hN hT (zn_allow hC hI (xs (i + 1)) (xs (i + 2))) (fun h1 hV => zm_allow hV hI (xs (i + 1)) (xs (i + 2))) (fun m' hm => zI_allow hI (xs (i + 1)) (xs (i + 2)) m' hm)
  refine ⟨h2, ?_, e3⟩
  rw [zb_171_32_c2, zS_add, zS_add, zS_ib _ (show i + 1 < 2147483648 by omega), decide_eq_true (show i + 1 < L by omega), zS_ib _ (show i + 2 < 2147483648 by omega), decide_eq_true (show i + 2 < L by omega), if_pos rfl, if_pos rfl, zS_cl (show i + 1 < 2147483648 by omega), zS_cl (show i + 2 < 2147483648 by omega), e1]
  simp only [Option.bind_some, zpush]
  rw [zb_171_240, zS_add, zS_add, zS_ib _ (show i + 1 < 2147483648 by omega), decide_eq_true (show i + 1 < L by omega), zS_ib _ (show i + 2 < 2147483648 by omega), decide_eq_true (show i + 2 < L by omega), if_pos rfl, if_pos rfl, zS_cl (show i + 1 < 2147483648 by omega), zS_cl (show i + 2 < 2147483648 by omega), e2]
  simp only [Option.bind_some, zpush]
  rw [zb_171_254, zceq, if_pos rfl]
theorem zlw_3 {L : Nat} {xs : Nat → Int32} (hL : L ≤ 2560) {i : Nat} (hi : i + 5 ≤ L) {h : zHp} (hLI : zLI h) : zCs L xs 3 i h := by
  obtain ⟨m, hs, sn, tx, hV, hC, hI, hH, hN, hT⟩ := hLI
  by_cases hz : xs (i + 2) = nI 0
  · obtain ⟨h1, h2, e1, e2, e3⟩ := zstA (f := zM_80 [.inr 0, .inl (xs (i + 1)), .inl (nI 0)]) (g := zM_18 [.inr 76, .inl (xs (i + 1)), .inl (nI 0)]) hV hI hH hN hT (zn_fix hC hI (xs (i + 1)) false) (fun h1 hV => zm_fix hV hI (xs (i + 1)) false) (fun m' hm => zI_fix hI (xs (i + 1)) false m' hm)
    refine ⟨h2, ?_, e3⟩
    have ez : zci .eq (xs (i + 2)) (nI 0) = true := decide_eq_true hz
    rw [zb_171_32_c3, zS_add, zS_add, zS_ib _ (show i + 1 < 2147483648 by omega), decide_eq_true (show i + 1 < L by omega), zS_ib _ (show i + 2 < 2147483648 by omega), decide_eq_true (show i + 2 < L by omega), if_pos rfl, if_pos rfl, zS_cl (show i + 1 < 2147483648 by omega), zS_cl (show i + 2 < 2147483648 by omega), ez, if_pos rfl, e1]
    simp only [Option.bind_some, zpush]
    rw [zb_171_281, zS_add, zS_add, zS_ib _ (show i + 1 < 2147483648 by omega), decide_eq_true (show i + 1 < L by omega), zS_ib _ (show i + 2 < 2147483648 by omega), decide_eq_true (show i + 2 < L by omega), if_pos rfl, if_pos rfl, zS_cl (show i + 1 < 2147483648 by omega), zS_cl (show i + 2 < 2147483648 by omega), ez, if_pos rfl, e2]
    simp only [Option.bind_some, zpush]
    rw [zb_171_303, zceq, if_pos rfl]
  · obtain ⟨h1, h2, e1, e2, e3⟩ := zstA (f := zM_80 [.inr 0, .inl (xs (i + 1)), .inl (nI 1)]) (g := zM_18 [.inr 76, .inl (xs (i + 1)), .inl (nI 1)]) hV hI hH hN hT (zn_fix hC hI (xs (i + 1)) true) (fun h1 hV => zm_fix hV hI (xs (i + 1)) true) (fun m' hm => zI_fix hI (xs (i + 1)) true m' hm)
    refine ⟨h2, ?_, e3⟩
    have ez : zci .eq (xs (i + 2)) (nI 0) = false := decide_eq_false hz
    rw [zb_171_32_c3, zS_add, zS_add, zS_ib _ (show i + 1 < 2147483648 by omega), decide_eq_true (show i + 1 < L by omega), zS_ib _ (show i + 2 < 2147483648 by omega), decide_eq_true (show i + 2 < L by omega), if_pos rfl, if_pos rfl, zS_cl (show i + 1 < 2147483648 by omega), zS_cl (show i + 2 < 2147483648 by omega), ez, if_neg (show ¬ (false = true) by decide), e1]
    simp only [Option.bind_some, zpush]
    rw [zb_171_281, zS_add, zS_add, zS_ib _ (show i + 1 < 2147483648 by omega), decide_eq_true (show i + 1 < L by omega), zS_ib _ (show i + 2 < 2147483648 by omega), decide_eq_true (show i + 2 < L by omega), if_pos rfl, if_pos rfl, zS_cl (show i + 1 < 2147483648 by omega), zS_cl (show i + 2 < 2147483648 by omega), ez, if_neg (show ¬ (false = true) by decide), e2]
    simp only [Option.bind_some, zpush]
    rw [zb_171_303, zceq, if_pos rfl]
theorem zlw_4 {L : Nat} {xs : Nat → Int32} (hL : L ≤ 2560) {i : Nat} (hi : i + 5 ≤ L) {h : zHp} (hLI : zLI h) : zCs L xs 4 i h := by
  obtain ⟨m, hs, sn, tx, hV, hC, hI, hH, hN, hT⟩ := hLI
  by_cases hz : xs (i + 3) = nI 0
  · obtain ⟨h1, h2, e1, e2, e3⟩ := zstA (f := zM_84 [.inr 0, .inl (xs (i + 1)), .inl (xs (i + 2)), .inl (nI 0)]) (g := zM_20 [.inr 76, .inl (xs (i + 1)), .inl (xs (i + 2)), .inl (nI 0)]) hV hI hH hN hT (zn_forbid hC hI (xs (i + 1)) (xs (i + 2)) false) (fun h1 hV => zm_forbid hV hI (xs (i + 1)) (xs (i + 2)) false) (fun m' hm => zI_forbid hI (xs (i + 1)) (xs (i + 2)) false m' hm)
    refine ⟨h2, ?_, e3⟩
    have ez : zci .eq (xs (i + 3)) (nI 0) = true := decide_eq_true hz
    rw [zb_171_32_c4, zS_add, zS_add, zS_add, zS_ib _ (show i + 1 < 2147483648 by omega), decide_eq_true (show i + 1 < L by omega), zS_ib _ (show i + 2 < 2147483648 by omega), decide_eq_true (show i + 2 < L by omega), zS_ib _ (show i + 3 < 2147483648 by omega), decide_eq_true (show i + 3 < L by omega), if_pos rfl, if_pos rfl, if_pos rfl, zS_cl (show i + 1 < 2147483648 by omega), zS_cl (show i + 2 < 2147483648 by omega), zS_cl (show i + 3 < 2147483648 by omega), ez, if_pos rfl, e1]
    simp only [Option.bind_some, zpush]
    rw [zb_171_335, zS_add, zS_add, zS_add, zS_ib _ (show i + 1 < 2147483648 by omega), decide_eq_true (show i + 1 < L by omega), zS_ib _ (show i + 2 < 2147483648 by omega), decide_eq_true (show i + 2 < L by omega), zS_ib _ (show i + 3 < 2147483648 by omega), decide_eq_true (show i + 3 < L by omega), if_pos rfl, if_pos rfl, if_pos rfl, zS_cl (show i + 1 < 2147483648 by omega), zS_cl (show i + 2 < 2147483648 by omega), zS_cl (show i + 3 < 2147483648 by omega), ez, if_pos rfl, e2]
    simp only [Option.bind_some, zpush]
    rw [zb_171_362, zceq, if_pos rfl]
  · obtain ⟨h1, h2, e1, e2, e3⟩ := zstA (f := zM_84 [.inr 0, .inl (xs (i + 1)), .inl (xs (i + 2)), .inl (nI 1)]) (g := zM_20 [.inr 76, .inl (xs (i + 1)), .inl (xs (i + 2)), .inl (nI 1)]) hV hI hH hN hT (zn_forbid hC hI (xs (i + 1)) (xs (i + 2)) true) (fun h1 hV => zm_forbid hV hI (xs (i + 1)) (xs (i + 2)) true) (fun m' hm => zI_forbid hI (xs (i + 1)) (xs (i + 2)) true m' hm)
    refine ⟨h2, ?_, e3⟩
    have ez : zci .eq (xs (i + 3)) (nI 0) = false := decide_eq_false hz
    rw [zb_171_32_c4, zS_add, zS_add, zS_add, zS_ib _ (show i + 1 < 2147483648 by omega), decide_eq_true (show i + 1 < L by omega), zS_ib _ (show i + 2 < 2147483648 by omega), decide_eq_true (show i + 2 < L by omega), zS_ib _ (show i + 3 < 2147483648 by omega), decide_eq_true (show i + 3 < L by omega), if_pos rfl, if_pos rfl, if_pos rfl, zS_cl (show i + 1 < 2147483648 by omega), zS_cl (show i + 2 < 2147483648 by omega), zS_cl (show i + 3 < 2147483648 by omega), ez, if_neg (show ¬ (false = true) by decide), e1]
    simp only [Option.bind_some, zpush]
    rw [zb_171_335, zS_add, zS_add, zS_add, zS_ib _ (show i + 1 < 2147483648 by omega), decide_eq_true (show i + 1 < L by omega), zS_ib _ (show i + 2 < 2147483648 by omega), decide_eq_true (show i + 2 < L by omega), zS_ib _ (show i + 3 < 2147483648 by omega), decide_eq_true (show i + 3 < L by omega), if_pos rfl, if_pos rfl, if_pos rfl, zS_cl (show i + 1 < 2147483648 by omega), zS_cl (show i + 2 < 2147483648 by omega), zS_cl (show i + 3 < 2147483648 by omega), ez, if_neg (show ¬ (false = true) by decide), e2]
    simp only [Option.bind_some, zpush]
    rw [zb_171_362, zceq, if_pos rfl]
theorem zlw_5 {L : Nat} {xs : Nat → Int32} (hL : L ≤ 2560) {i : Nat} (hi : i + 5 ≤ L) {h : zHp} (hLI : zLI h) : zCs L xs 5 i h := by
  obtain ⟨m, hs, sn, tx, hV, hC, hI, hH, hN, hT⟩ := hLI
  obtain ⟨h1, h2, e1, e2, e3⟩ := zstA (f := zM_89 [.inr 0, .inl (xs (i + 1)), .inl (xs (i + 2)), .inl (xs (i + 3))]) (g := zM_23 [.inr 76, .inl (xs (i + 1)), .inl (xs (i + 2)), .inl (xs (i + 3))]) hV hI hH hN hT (zn_setb hC hI (xs (i + 1)) (xs (i + 2)) (xs (i + 3))) (fun h1 hV => zm_setb hV hI (xs (i + 1)) (xs (i + 2)) (xs (i + 3))) (fun m' hm => zI_set hI (xs (i + 1)) (xs (i + 2)) (xs (i + 3)) m' hm)
  refine ⟨h2, ?_, e3⟩
  rw [zb_171_32_c5, zS_add, zS_add, zS_add, zS_ib _ (show i + 1 < 2147483648 by omega), decide_eq_true (show i + 1 < L by omega), zS_ib _ (show i + 2 < 2147483648 by omega), decide_eq_true (show i + 2 < L by omega), zS_ib _ (show i + 3 < 2147483648 by omega), decide_eq_true (show i + 3 < L by omega), if_pos rfl, if_pos rfl, if_pos rfl, zS_cl (show i + 1 < 2147483648 by omega), zS_cl (show i + 2 < 2147483648 by omega), zS_cl (show i + 3 < 2147483648 by omega), e1]
  simp only [Option.bind_some, zpush]
  rw [zb_171_386, zS_add, zS_add, zS_add, zS_ib _ (show i + 1 < 2147483648 by omega), decide_eq_true (show i + 1 < L by omega), zS_ib _ (show i + 2 < 2147483648 by omega), decide_eq_true (show i + 2 < L by omega), zS_ib _ (show i + 3 < 2147483648 by omega), decide_eq_true (show i + 3 < L by omega), if_pos rfl, if_pos rfl, if_pos rfl, zS_cl (show i + 1 < 2147483648 by omega), zS_cl (show i + 2 < 2147483648 by omega), zS_cl (show i + 3 < 2147483648 by omega), e2]
  simp only [Option.bind_some, zpush]
  rw [zb_171_405, zceq, if_pos rfl]
theorem zlw_6 {L : Nat} {xs : Nat → Int32} (hL : L ≤ 2560) {i : Nat} (hi : i + 5 ≤ L) {h : zHp} (hLI : zLI h) : zCs L xs 6 i h := by
  obtain ⟨m, hs, sn, tx, hV, hC, hI, hH, hN, hT⟩ := hLI
  obtain ⟨h1, h2, e1, e2, e3⟩ := zstA (f := zM_96 [.inr 0]) (g := zM_28 [.inr 76]) hV hI hH hN hT (zn_read hC hI hT) (fun h1 hV => (zm_read hV hI hT).1) (fun m' hm => (zm_read hV hI hT).2 m' hm)
  refine ⟨h2, ?_, e3⟩
  rw [zb_171_32_c6, e1]
  simp only [Option.bind_some, zpush]
  rw [zb_171_414, e2]
  simp only [Option.bind_some, zpush]
  rw [zb_171_418, zceq, if_pos rfl]
theorem zlw_7 {L : Nat} {xs : Nat → Int32} (hL : L ≤ 2560) {i : Nat} (hi : i + 5 ≤ L) {h : zHp} (hLI : zLI h) : zCs L xs 7 i h := by
  obtain ⟨m, hs, sn, tx, hV, hC, hI, hH, hN, hT⟩ := hLI
  obtain ⟨h1, h2, e1, e2, e3⟩ := zstA (f := zM_100 [.inr 0, .inl (xs (i + 1)), .inl (xs (i + 2))]) (g := zM_30 [.inr 76, .inl (xs (i + 1)), .inl (xs (i + 2))]) hV hI hH hN hT (zn_join hC hI (xs (i + 1)) (xs (i + 2))) (fun h1 hV => zm_join hV hI (xs (i + 1)) (xs (i + 2))) (fun m' hm => zI_join hI (xs (i + 1)) (xs (i + 2)) m' hm)
  refine ⟨h2, ?_, e3⟩
  rw [zb_171_32_c7, zS_add, zS_add, zS_ib _ (show i + 1 < 2147483648 by omega), decide_eq_true (show i + 1 < L by omega), zS_ib _ (show i + 2 < 2147483648 by omega), decide_eq_true (show i + 2 < L by omega), if_pos rfl, if_pos rfl, zS_cl (show i + 1 < 2147483648 by omega), zS_cl (show i + 2 < 2147483648 by omega), e1]
  simp only [Option.bind_some, zpush]
  rw [zb_171_437, zS_add, zS_add, zS_ib _ (show i + 1 < 2147483648 by omega), decide_eq_true (show i + 1 < L by omega), zS_ib _ (show i + 2 < 2147483648 by omega), decide_eq_true (show i + 2 < L by omega), if_pos rfl, if_pos rfl, zS_cl (show i + 1 < 2147483648 by omega), zS_cl (show i + 2 < 2147483648 by omega), e2]
  simp only [Option.bind_some, zpush]
  rw [zb_171_451, zceq, if_pos rfl]
theorem zlw_8 {L : Nat} {xs : Nat → Int32} (hL : L ≤ 2560) {i : Nat} (hi : i + 5 ≤ L) {h : zHp} (hLI : zLI h) : zCs L xs 8 i h := by
  obtain ⟨m, hs, sn, tx, hV, hC, hI, hH, hN, hT⟩ := hLI
  obtain ⟨h1, h2, e1, e2, e3⟩ := zstA (f := zM_101 [.inr 0, .inl (xs (i + 1)), .inl (xs (i + 2)), .inl (xs (i + 3)), .inl (xs (i + 4))]) (g := zM_31 [.inr 76, .inl (xs (i + 1)), .inl (xs (i + 2)), .inl (xs (i + 3)), .inl (xs (i + 4))]) hV hI hH hN hT (zn_give hC hI (xs (i + 1)) (xs (i + 2)) (xs (i + 3)) (xs (i + 4))) (fun h1 hV => zm_give hV hI (xs (i + 1)) (xs (i + 2)) (xs (i + 3)) (xs (i + 4))) (fun m' hm => zI_give hI (xs (i + 1)) (xs (i + 2)) (xs (i + 3)) (xs (i + 4)) m' hm)
  refine ⟨h2, ?_, e3⟩
  rw [zb_171_32_c8, zS_add, zS_add, zS_add, zS_add, zS_ib _ (show i + 1 < 2147483648 by omega), decide_eq_true (show i + 1 < L by omega), zS_ib _ (show i + 2 < 2147483648 by omega), decide_eq_true (show i + 2 < L by omega), zS_ib _ (show i + 3 < 2147483648 by omega), decide_eq_true (show i + 3 < L by omega), zS_ib _ (show i + 4 < 2147483648 by omega), decide_eq_true (show i + 4 < L by omega), if_pos rfl, if_pos rfl, if_pos rfl, if_pos rfl, zS_cl (show i + 1 < 2147483648 by omega), zS_cl (show i + 2 < 2147483648 by omega), zS_cl (show i + 3 < 2147483648 by omega), zS_cl (show i + 4 < 2147483648 by omega), e1]
  simp only [Option.bind_some, zpush]
  rw [zb_171_480, zS_add, zS_add, zS_add, zS_add, zS_ib _ (show i + 1 < 2147483648 by omega), decide_eq_true (show i + 1 < L by omega), zS_ib _ (show i + 2 < 2147483648 by omega), decide_eq_true (show i + 2 < L by omega), zS_ib _ (show i + 3 < 2147483648 by omega), decide_eq_true (show i + 3 < L by omega), zS_ib _ (show i + 4 < 2147483648 by omega), decide_eq_true (show i + 4 < L by omega), if_pos rfl, if_pos rfl, if_pos rfl, if_pos rfl, zS_cl (show i + 1 < 2147483648 by omega), zS_cl (show i + 2 < 2147483648 by omega), zS_cl (show i + 3 < 2147483648 by omega), zS_cl (show i + 4 < 2147483648 by omega), e2]
  simp only [Option.bind_some, zpush]
  rw [zb_171_504, zceq, if_pos rfl]
theorem zlw_9 {L : Nat} {xs : Nat → Int32} (hL : L ≤ 2560) {i : Nat} (hi : i + 5 ≤ L) {h : zHp} (hLI : zLI h) : zCs L xs 9 i h := by
  obtain ⟨m, hs, sn, tx, hV, hC, hI, hH, hN, hT⟩ := hLI
  obtain ⟨h1, h2, e1, e2, e3⟩ := zstA (f := zM_115 [.inr 0]) (g := zM_36 [.inr 76]) hV hI hH hN hT (zn_rp hC hI) (fun h1 hV => zm_rp hV hI) (fun m' hm => zI_rp hI m' hm)
  refine ⟨h2, ?_, e3⟩
  rw [zb_171_32_c9, e1]
  simp only [Option.bind_some, zpush]
  rw [zb_171_513, e2]
  simp only [Option.bind_some, zpush]
  rw [zb_171_517, zceq, if_pos rfl]
theorem zlw_10 {L : Nat} {xs : Nat → Int32} (hL : L ≤ 2560) {i : Nat} (hi : i + 5 ≤ L) {h : zHp} (hLI : zLI h) : zCs L xs 10 i h := by
  obtain ⟨m, hs, sn, tx, hV, hC, hI, hH, hN, hT⟩ := hLI
  obtain ⟨h1, h2, e1, e2, e3⟩ := zstA (f := zM_120 [.inr 0, .inl (xs (i + 1)), .inl (xs (i + 2))]) (g := zM_39 [.inr 76, .inl (xs (i + 1)), .inl (xs (i + 2))]) hV hI hH hN hT (zn_exch hC hI (xs (i + 1)) (xs (i + 2))) (fun h1 hV => zm_exch hV hI (xs (i + 1)) (xs (i + 2))) (fun m' hm => zI_exch hI (xs (i + 1)) (xs (i + 2)) m' hm)
  refine ⟨h2, ?_, e3⟩
  rw [zb_171_32_c10, zS_add, zS_add, zS_ib _ (show i + 1 < 2147483648 by omega), decide_eq_true (show i + 1 < L by omega), zS_ib _ (show i + 2 < 2147483648 by omega), decide_eq_true (show i + 2 < L by omega), if_pos rfl, if_pos rfl, zS_cl (show i + 1 < 2147483648 by omega), zS_cl (show i + 2 < 2147483648 by omega), e1]
  simp only [Option.bind_some, zpush]
  rw [zb_171_536, zS_add, zS_add, zS_ib _ (show i + 1 < 2147483648 by omega), decide_eq_true (show i + 1 < L by omega), zS_ib _ (show i + 2 < 2147483648 by omega), decide_eq_true (show i + 2 < L by omega), if_pos rfl, if_pos rfl, zS_cl (show i + 1 < 2147483648 by omega), zS_cl (show i + 2 < 2147483648 by omega), e2]
  simp only [Option.bind_some, zpush]
  rw [zb_171_550, zceq, if_pos rfl]
theorem zlw_11 {L : Nat} {xs : Nat → Int32} (hL : L ≤ 2560) {i : Nat} (hi : i + 5 ≤ L) {h : zHp} (hLI : zLI h) : zCs L xs 11 i h := by
  obtain ⟨m, hs, sn, tx, hV, hC, hI, hH, hN, hT⟩ := hLI
  have key : ∃ (a : Int32) (h1 h2 : zHp), zM_122 [.inr 0, .inl (zi2c (xs (i + 1)))] h = some (some a, h1) ∧ zM_40 [.inr 76, .inl (zi2c (xs (i + 1)))] h1 = some (some a, h2) ∧ zLI h2 := by
    refine ⟨_, zstB hV (zn_type hC (zi2c (xs (i + 1)))) (fun h1 hV => zm_type hV (zi2c (xs (i + 1)))) hI hH hN (fun x hx => ?_)⟩
    split at hx
    · exact hT x hx
    · rcases List.mem_append.mp hx with e | e
      · exact hT x e
      · rw [List.mem_singleton.mp e]
        exact ztc_lt _
  obtain ⟨a, h1, h2, e1, e2, e3⟩ := key
  refine ⟨h2, ?_, e3⟩
  rw [zb_171_32_c11, zS_add, zS_ib _ (show i + 1 < 2147483648 by omega), decide_eq_true (show i + 1 < L by omega), if_pos rfl, zS_cl (show i + 1 < 2147483648 by omega), e1]
  simp only [Option.bind_some, zpush]
  rw [zb_171_565, zS_add, zS_ib _ (show i + 1 < 2147483648 by omega), decide_eq_true (show i + 1 < L by omega), if_pos rfl, zS_cl (show i + 1 < 2147483648 by omega), e2]
  simp only [Option.bind_some, zpush]
  rw [zb_171_575, zceq, if_pos rfl]
theorem zlw_12 {L : Nat} {xs : Nat → Int32} (hL : L ≤ 2560) {i : Nat} (hi : i + 5 ≤ L) {h : zHp} (hLI : zLI h) : zCs L xs 12 i h := by
  obtain ⟨m, hs, sn, tx, hV, hC, hI, hH, hN, hT⟩ := hLI
  have key : ∃ (a : Int32) (h1 h2 : zHp), zM_123 [.inr 0] h = some (some a, h1) ∧ zM_41 [.inr 76] h1 = some (some a, h2) ∧ zLI h2 := by
    exact ⟨_, zstB hV (zn_clear hC) (fun h1 hV => zm_clear hV) hI hH hN (fun x hx => by cases hx)⟩
  obtain ⟨a, h1, h2, e1, e2, e3⟩ := key
  refine ⟨h2, ?_, e3⟩
  rw [zb_171_32_c12, e1]
  simp only [Option.bind_some, zpush]
  rw [zb_171_584, e2]
  simp only [Option.bind_some, zpush]
  rw [zb_171_588, zceq, if_pos rfl]
theorem zlw_13 {L : Nat} {xs : Nat → Int32} (hL : L ≤ 2560) {i : Nat} (hi : i + 5 ≤ L) {h : zHp} (hLI : zLI h) : zCs L xs 13 i h := by
  obtain ⟨m, hs, sn, tx, hV, hC, hI, hH, hN, hT⟩ := hLI
  have key : ∃ (a : Int32) (h1 h2 : zHp), zM_125 [.inr 0] h = some (some a, h1) ∧ zM_42 [.inr 76] h1 = some (some a, h2) ∧ zLI h2 := by
    rcases zlast hs with e | ⟨l, y, e⟩
    · subst e
      exact ⟨_, zstB hV ⟨h, zn_undo0 hC, hC, zhi_rf h⟩ (fun h1 hV => ⟨h1, zm_undo0 hV, hV, zlo_rf h1⟩) hI hH hN hT⟩
    · subst e
      have hy : zI y := hH y (by simp)
      exact ⟨_, zstB hV (zn_undo hC hy.1) (fun h1 hV => zm_undo hV) hy (fun x hx => hH x (List.mem_append_left _ hx)) hN hT⟩
  obtain ⟨a, h1, h2, e1, e2, e3⟩ := key
  refine ⟨h2, ?_, e3⟩
  rw [zb_171_32_c13, e1]
  simp only [Option.bind_some, zpush]
  rw [zb_171_597, e2]
  simp only [Option.bind_some, zpush]
  rw [zb_171_601, zceq, if_pos rfl]
theorem zlw_14 {L : Nat} {xs : Nat → Int32} (hL : L ≤ 2560) {i : Nat} (hi : i + 5 ≤ L) {h : zHp} (hLI : zLI h) : zCs L xs 14 i h := by
  obtain ⟨m, hs, sn, tx, hV, hC, hI, hH, hN, hT⟩ := hLI
  have key : ∃ (a : Int32) (h1 h2 : zHp), zM_126 [.inr 0] h = some (some a, h1) ∧ zM_43 [.inr 76] h1 = some (some a, h2) ∧ zLI h2 := by
    exact ⟨_, zstB hV (zn_keep hC hI.1) (fun h1 hV => zm_keep hV hI.1) hI hH (fun y hy => by cases hy; exact hI) hT⟩
  obtain ⟨a, h1, h2, e1, e2, e3⟩ := key
  refine ⟨h2, ?_, e3⟩
  rw [zb_171_32_c14, e1]
  simp only [Option.bind_some, zpush]
  rw [zb_171_610, e2]
  simp only [Option.bind_some, zpush]
  rw [zb_171_614, zceq, if_pos rfl]
theorem zlw_15 {L : Nat} {xs : Nat → Int32} (hL : L ≤ 2560) {i : Nat} (hi : i + 5 ≤ L) {h : zHp} (hLI : zLI h) : zCs L xs 15 i h := by
  obtain ⟨m, hs, sn, tx, hV, hC, hI, hH, hN, hT⟩ := hLI
  have key : ∃ (a : Int32) (h1 h2 : zHp), zM_127 [.inr 0] h = some (some a, h1) ∧ zM_44 [.inr 76] h1 = some (some a, h2) ∧ zLI h2 := by
    cases sn with
    | none => exact ⟨_, zstB hV ⟨h, zn_rest0 hC, hC, zhi_rf h⟩ (fun h1 hV => ⟨h1, zm_rest0 hV, hV, zlo_rf h1⟩) hI hH hN hT⟩
    | some y =>
      have hy : zI y := hN y rfl
      refine ⟨_, zstB hV (zn_rest hC hI.1 hy.1) (fun h1 hV => zm_rest hV hy.1) hy (fun x hx => ?_) hN hT⟩
      rcases zph_mem hx with e | e
      · exact hH x e
      · rw [e]; exact hI
  obtain ⟨a, h1, h2, e1, e2, e3⟩ := key
  refine ⟨h2, ?_, e3⟩
  rw [zb_171_32_c15, e1]
  simp only [Option.bind_some, zpush]
  rw [zb_171_623, e2]
  simp only [Option.bind_some, zpush]
  rw [zb_171_627, zceq, if_pos rfl]
theorem zlw_16 {L : Nat} {xs : Nat → Int32} (hL : L ≤ 2560) {i : Nat} (hi : i + 5 ≤ L) {h : zHp} (hLI : zLI h) : zCs L xs 16 i h := by
  obtain ⟨m, hs, sn, tx, hV, hC, hI, hH, hN, hT⟩ := hLI
  obtain ⟨h1, h2, e1, e2, e3⟩ := zstA (f := zM_130 [.inr 0, .inl (xs (i + 1)), .inl (xs (i + 2))]) (g := zM_47 [.inr 76, .inl (xs (i + 1)), .inl (xs (i + 2))]) hV hI hH hN hT (zCAns_no hC (zn_country hC.1 hI _ _)) (fun h1 hV => zAns_no hV (zm_country hV.1 hI.1 _ _)) (fun m' hm => by cases hm)
  refine ⟨h2, ?_, e3⟩
  rw [zb_171_32_c16, zS_add, zS_add, zS_ib _ (show i + 1 < 2147483648 by omega), decide_eq_true (show i + 1 < L by omega), zS_ib _ (show i + 2 < 2147483648 by omega), decide_eq_true (show i + 2 < L by omega), if_pos rfl, if_pos rfl, zS_cl (show i + 1 < 2147483648 by omega), zS_cl (show i + 2 < 2147483648 by omega), e1]
  simp only [Option.bind_some, zpush]
  rw [zb_171_646, zS_add, zS_add, zS_ib _ (show i + 1 < 2147483648 by omega), decide_eq_true (show i + 1 < L by omega), zS_ib _ (show i + 2 < 2147483648 by omega), decide_eq_true (show i + 2 < L by omega), if_pos rfl, if_pos rfl, zS_cl (show i + 1 < 2147483648 by omega), zS_cl (show i + 2 < 2147483648 by omega), e2]
  simp only [Option.bind_some, zpush]
  rw [zb_171_660, zceq, if_pos rfl]
theorem zlw_17 {L : Nat} {xs : Nat → Int32} (hL : L ≤ 2560) {i : Nat} (hi : i + 5 ≤ L) {h : zHp} (hLI : zLI h) : zCs L xs 17 i h := by
  obtain ⟨m, hs, sn, tx, hV, hC, hI, hH, hN, hT⟩ := hLI
  obtain ⟨h1, h2, e1, e2, e3⟩ := zstA (f := zM_131 [.inr 0, .inl (xs (i + 1)), .inl (xs (i + 2))]) (g := zM_48 [.inr 76, .inl (xs (i + 1)), .inl (xs (i + 2))]) hV hI hH hN hT (zCAns_no hC (zn_border hC.1 hI _ _)) (fun h1 hV => zAns_no hV (zm_border hV.1 hI.1 _ _)) (fun m' hm => by cases hm)
  refine ⟨h2, ?_, e3⟩
  rw [zb_171_32_c17, zS_add, zS_add, zS_ib _ (show i + 1 < 2147483648 by omega), decide_eq_true (show i + 1 < L by omega), zS_ib _ (show i + 2 < 2147483648 by omega), decide_eq_true (show i + 2 < L by omega), if_pos rfl, if_pos rfl, zS_cl (show i + 1 < 2147483648 by omega), zS_cl (show i + 2 < 2147483648 by omega), e1]
  simp only [Option.bind_some, zpush]
  rw [zb_171_679, zS_add, zS_add, zS_ib _ (show i + 1 < 2147483648 by omega), decide_eq_true (show i + 1 < L by omega), zS_ib _ (show i + 2 < 2147483648 by omega), decide_eq_true (show i + 2 < L by omega), if_pos rfl, if_pos rfl, zS_cl (show i + 1 < 2147483648 by omega), zS_cl (show i + 2 < 2147483648 by omega), e2]
  simp only [Option.bind_some, zpush]
  rw [zb_171_693, zceq, if_pos rfl]
theorem zlw_18 {L : Nat} {xs : Nat → Int32} (hL : L ≤ 2560) {i : Nat} (hi : i + 5 ≤ L) {h : zHp} (hLI : zLI h) : zCs L xs 18 i h := by
  obtain ⟨m, hs, sn, tx, hV, hC, hI, hH, hN, hT⟩ := hLI
  obtain ⟨h1, h2, e1, e2, e3⟩ := zstA (f := zM_132 [.inr 0, .inl (xs (i + 1))]) (g := zM_49 [.inr 76, .inl (xs (i + 1))]) hV hI hH hN hT (zCAns_no hC (zn_at hC.1 hI _)) (fun h1 hV => zAns_no hV (zm_borderAt hV.1 hI.1 _)) (fun m' hm => by cases hm)
  refine ⟨h2, ?_, e3⟩
  rw [zb_171_32_c18, zS_add, zS_ib _ (show i + 1 < 2147483648 by omega), decide_eq_true (show i + 1 < L by omega), if_pos rfl, zS_cl (show i + 1 < 2147483648 by omega), e1]
  simp only [Option.bind_some, zpush]
  rw [zb_171_707, zS_add, zS_ib _ (show i + 1 < 2147483648 by omega), decide_eq_true (show i + 1 < L by omega), if_pos rfl, zS_cl (show i + 1 < 2147483648 by omega), e2]
  simp only [Option.bind_some, zpush]
  rw [zb_171_716, zceq, if_pos rfl]
theorem zlw_19 {L : Nat} {xs : Nat → Int32} (hL : L ≤ 2560) {i : Nat} (hi : i + 5 ≤ L) {h : zHp} (hLI : zLI h) : zCs L xs 19 i h := by
  obtain ⟨m, hs, sn, tx, hV, hC, hI, hH, hN, hT⟩ := hLI
  obtain ⟨h1, h2, e1, e2, e3⟩ := zstA (f := zM_133 [.inr 0, .inl (xs (i + 1)), .inl (xs (i + 2))]) (g := zM_50 [.inr 76, .inl (xs (i + 1)), .inl (xs (i + 2))]) hV hI hH hN hT (zCAns_no hC (zn_forb hC.1 _ _)) (fun h1 hV => zAns_no hV (zm_forb hV.1 hI.1 _ _)) (fun m' hm => by cases hm)
  refine ⟨h2, ?_, e3⟩
  rw [zb_171_32_c19, zS_add, zS_add, zS_ib _ (show i + 1 < 2147483648 by omega), decide_eq_true (show i + 1 < L by omega), zS_ib _ (show i + 2 < 2147483648 by omega), decide_eq_true (show i + 2 < L by omega), if_pos rfl, if_pos rfl, zS_cl (show i + 1 < 2147483648 by omega), zS_cl (show i + 2 < 2147483648 by omega), e1]
  simp only [Option.bind_some, zpush]
  rw [zb_171_735, zS_add, zS_add, zS_ib _ (show i + 1 < 2147483648 by omega), decide_eq_true (show i + 1 < L by omega), zS_ib _ (show i + 2 < 2147483648 by omega), decide_eq_true (show i + 2 < L by omega), if_pos rfl, if_pos rfl, zS_cl (show i + 1 < 2147483648 by omega), zS_cl (show i + 2 < 2147483648 by omega), e2]
  simp only [Option.bind_some, zpush]
  rw [zb_171_749, zceq, if_pos rfl]
theorem zlw_20 {L : Nat} {xs : Nat → Int32} (hL : L ≤ 2560) {i : Nat} (hi : i + 5 ≤ L) {h : zHp} (hLI : zLI h) : zCs L xs 20 i h := by
  obtain ⟨m, hs, sn, tx, hV, hC, hI, hH, hN, hT⟩ := hLI
  obtain ⟨h1, h2, e1, e2, e3⟩ := zstA (f := zM_135 [.inr 0, .inl (xs (i + 1))]) (g := zM_52 [.inr 76, .inl (xs (i + 1))]) hV hI hH hN hT (zn_least hC hI _) (fun h1 hV => zm_least hV hI _) (fun m' hm => by cases hm)
  refine ⟨h2, ?_, e3⟩
  rw [zb_171_32_c20, zS_add, zS_ib _ (show i + 1 < 2147483648 by omega), decide_eq_true (show i + 1 < L by omega), if_pos rfl, zS_cl (show i + 1 < 2147483648 by omega), e1]
  simp only [Option.bind_some, zpush]
  rw [zb_171_763, zS_add, zS_ib _ (show i + 1 < 2147483648 by omega), decide_eq_true (show i + 1 < L by omega), if_pos rfl, zS_cl (show i + 1 < 2147483648 by omega), e2]
  simp only [Option.bind_some, zpush]
  rw [zb_171_772, zceq, if_pos rfl]
theorem zlw_21 {L : Nat} {xs : Nat → Int32} (hL : L ≤ 2560) {i : Nat} (hi : i + 5 ≤ L) {h : zHp} (hLI : zLI h) : zCs L xs 21 i h := by
  obtain ⟨m, hs, sn, tx, hV, hC, hI, hH, hN, hT⟩ := hLI
  obtain ⟨h1, h2, e1, e2, e3⟩ := zstA (f := zM_136 [.inr 0, .inl (xs (i + 1))]) (g := zM_53 [.inr 76, .inl (xs (i + 1))]) hV hI hH hN hT (zn_rpd hC hI _) (fun h1 hV => zm_rpd hV hI _) (fun m' hm => by cases hm)
  refine ⟨h2, ?_, e3⟩
  rw [zb_171_32_c21, zS_add, zS_ib _ (show i + 1 < 2147483648 by omega), decide_eq_true (show i + 1 < L by omega), if_pos rfl, zS_cl (show i + 1 < 2147483648 by omega), e1]
  simp only [Option.bind_some, zpush]
  rw [zb_171_786, zS_add, zS_ib _ (show i + 1 < 2147483648 by omega), decide_eq_true (show i + 1 < L by omega), if_pos rfl, zS_cl (show i + 1 < 2147483648 by omega), e2]
  simp only [Option.bind_some, zpush]
  rw [zb_171_795, zceq, if_pos rfl]
theorem zlw_22 {L : Nat} {xs : Nat → Int32} (hL : L ≤ 2560) {i : Nat} (hi : i + 5 ≤ L) {h : zHp} (hLI : zLI h) : zCs L xs 22 i h := by
  obtain ⟨m, hs, sn, tx, hV, hC, hI, hH, hN, hT⟩ := hLI
  obtain ⟨h1, h2, e1, e2, e3⟩ := zstA (f := zM_138 [.inr 0, .inl (xs (i + 1)), .inl (xs (i + 2))]) (g := zM_54 [.inr 76, .inl (xs (i + 1)), .inl (xs (i + 2))]) hV hI hH hN hT (zn_would hC hI _ _) (fun h1 hV => zm_would hV hI _ _) (fun m' hm => by cases hm)
  refine ⟨h2, ?_, e3⟩
  rw [zb_171_32_c22, zS_add, zS_add, zS_ib _ (show i + 1 < 2147483648 by omega), decide_eq_true (show i + 1 < L by omega), zS_ib _ (show i + 2 < 2147483648 by omega), decide_eq_true (show i + 2 < L by omega), if_pos rfl, if_pos rfl, zS_cl (show i + 1 < 2147483648 by omega), zS_cl (show i + 2 < 2147483648 by omega), e1]
  simp only [Option.bind_some, zpush]
  rw [zb_171_814, zS_add, zS_add, zS_ib _ (show i + 1 < 2147483648 by omega), decide_eq_true (show i + 1 < L by omega), zS_ib _ (show i + 2 < 2147483648 by omega), decide_eq_true (show i + 2 < L by omega), if_pos rfl, if_pos rfl, zS_cl (show i + 1 < 2147483648 by omega), zS_cl (show i + 2 < 2147483648 by omega), e2]
  simp only [Option.bind_some, zpush]
  rw [zb_171_828, zceq, if_pos rfl]
theorem zlw_23 {L : Nat} {xs : Nat → Int32} (hL : L ≤ 2560) {i : Nat} (hi : i + 5 ≤ L) {h : zHp} (hLI : zLI h) : zCs L xs 23 i h := by
  obtain ⟨m, hs, sn, tx, hV, hC, hI, hH, hN, hT⟩ := hLI
  obtain ⟨h1, h2, e1, e2, e3⟩ := zstA (f := zM_151 [.inr 0]) (g := zM_55 [.inr 76]) hV hI hH hN hT (zn_rps hC hI) (fun h1 hV => zm_rps hV hI) (fun m' hm => by cases hm)
  refine ⟨h2, ?_, e3⟩
  rw [zb_171_32_c23, e1]
  simp only [Option.bind_some, zpush]
  rw [zb_171_837, e2]
  simp only [Option.bind_some, zpush]
  rw [zb_171_841, zceq, if_pos rfl]
theorem zlw_24 {L : Nat} {xs : Nat → Int32} (hL : L ≤ 2560) {i : Nat} (hi : i + 5 ≤ L) {h : zHp} (hLI : zLI h) : zCs L xs 24 i h := by
  obtain ⟨m, hs, sn, tx, hV, hC, hI, hH, hN, hT⟩ := hLI
  obtain ⟨h1, h2, e1, e2, e3⟩ := zstA (f := zM_163 [.inr 0, .inl (xs (i + 1))]) (g := zM_56 [.inr 76, .inl (xs (i + 1))]) hV hI hH hN hT (zn_free hC hI _) (fun h1 hV => zm_free hV hI _) (fun m' hm => by cases hm)
  refine ⟨h2, ?_, e3⟩
  rw [zb_171_32_c24, zS_add, zS_ib _ (show i + 1 < 2147483648 by omega), decide_eq_true (show i + 1 < L by omega), if_pos rfl, zS_cl (show i + 1 < 2147483648 by omega), e1]
  simp only [Option.bind_some, zpush]
  rw [zb_171_855, zS_add, zS_ib _ (show i + 1 < 2147483648 by omega), decide_eq_true (show i + 1 < L by omega), if_pos rfl, zS_cl (show i + 1 < 2147483648 by omega), e2]
  simp only [Option.bind_some, zpush]
  rw [zb_171_864, zceq, if_pos rfl]
theorem zlw_25 {L : Nat} {xs : Nat → Int32} (hL : L ≤ 2560) {i : Nat} (hi : i + 5 ≤ L) {h : zHp} (hLI : zLI h) : zCs L xs 25 i h := by
  obtain ⟨m, hs, sn, tx, hV, hC, hI, hH, hN, hT⟩ := hLI
  obtain ⟨h1, h2, e1, e2, e3⟩ := zstA (f := zM_165 [.inr 0]) (g := zM_57 [.inr 76]) hV hI hH hN hT (zn_few hC hI) (fun h1 hV => zm_few hV hI) (fun m' hm => by cases hm)
  refine ⟨h2, ?_, e3⟩
  rw [zb_171_32_c25, e1]
  simp only [Option.bind_some, zpush]
  rw [zb_171_873, e2]
  simp only [Option.bind_some, zpush]
  rw [zb_171_877, zceq, if_pos rfl]
theorem zlw_26 {L : Nat} {xs : Nat → Int32} (hL : L ≤ 2560) {i : Nat} (hi : i + 5 ≤ L) {h : zHp} (hLI : zLI h) : zCs L xs 26 i h := by
  obtain ⟨m, hs, sn, tx, hV, hC, hI, hH, hN, hT⟩ := hLI
  obtain ⟨h1, h2, e1, e2, e3⟩ := zstA (f := zM_166 [.inr 0, .inl (xs (i + 1)), .inl (xs (i + 2))]) (g := zM_58 [.inr 76, .inl (xs (i + 1)), .inl (xs (i + 2))]) hV hI hH hN hT (zCAns_no hC (zn_chain hC.1 hI _ _)) (fun h1 hV => zAns_no hV (zm_chain hV.1 hI _ _)) (fun m' hm => by cases hm)
  refine ⟨h2, ?_, e3⟩
  rw [zb_171_32_c26, zS_add, zS_add, zS_ib _ (show i + 1 < 2147483648 by omega), decide_eq_true (show i + 1 < L by omega), zS_ib _ (show i + 2 < 2147483648 by omega), decide_eq_true (show i + 2 < L by omega), if_pos rfl, if_pos rfl, zS_cl (show i + 1 < 2147483648 by omega), zS_cl (show i + 2 < 2147483648 by omega), e1]
  simp only [Option.bind_some, zpush]
  rw [zb_171_896, zS_add, zS_add, zS_ib _ (show i + 1 < 2147483648 by omega), decide_eq_true (show i + 1 < L by omega), zS_ib _ (show i + 2 < 2147483648 by omega), decide_eq_true (show i + 2 < L by omega), if_pos rfl, if_pos rfl, zS_cl (show i + 1 < 2147483648 by omega), zS_cl (show i + 2 < 2147483648 by omega), e2]
  simp only [Option.bind_some, zpush]
  rw [zb_171_910, zceq, if_pos rfl]
theorem zlw_27 {L : Nat} {xs : Nat → Int32} (hL : L ≤ 2560) {i : Nat} (hi : i + 5 ≤ L) {h : zHp} (hLI : zLI h) : zCs L xs 27 i h := by
  obtain ⟨m, hs, sn, tx, hV, hC, hI, hH, hN, hT⟩ := hLI
  obtain ⟨h1, h2, e1, e2, e3⟩ := zstA (f := zM_170 [.inr 0, .inl (xs (i + 1))]) (g := zM_61 [.inr 76, .inl (xs (i + 1))]) hV hI hH hN hT (zCAns_no hC (zn_count hC hI _)) (fun h1 hV => zAns_no hV (zm_count hV hI.1 _)) (fun m' hm => by cases hm)
  refine ⟨h2, ?_, e3⟩
  rw [zb_171_32_c27, zS_add, zS_ib _ (show i + 1 < 2147483648 by omega), decide_eq_true (show i + 1 < L by omega), if_pos rfl, zS_cl (show i + 1 < 2147483648 by omega), e1]
  simp only [Option.bind_some, zpush]
  rw [zb_171_924, zS_add, zS_ib _ (show i + 1 < 2147483648 by omega), decide_eq_true (show i + 1 < L by omega), if_pos rfl, zS_cl (show i + 1 < 2147483648 by omega), e2]
  simp only [Option.bind_some, zpush]
  rw [zb_171_933, zceq, if_pos rfl]
theorem zand31 (x : Int32) : ∃ k, k < 32 ∧ zand x (nI 31) = nI k := by
  refine ⟨(x.toBitVec &&& BitVec.ofNat 32 31).toNat, ?_, ?_⟩
  · rw [BitVec.toNat_and]
    exact Nat.lt_of_le_of_lt Nat.and_le_right (by decide)
  · apply Int32.toBitVec_inj.mp
    show x.toBitVec &&& BitVec.ofNat 32 31 = BitVec.ofNat 32 (x.toBitVec &&& BitVec.ofNat 32 31).toNat
    rw [BitVec.ofNat_toNat, BitVec.setWidth_eq]
theorem zlw_all {L : Nat} {xs : Nat → Int32} (hL : L ≤ 2560) {k i : Nat} (hk : k < 32) (hi : i + 5 ≤ L) {h : zHp} (hLI : zLI h) : zCs L xs k i h := by
  have hc : k = 0 ∨ k = 1 ∨ k = 2 ∨ k = 3 ∨ k = 4 ∨ k = 5 ∨ k = 6 ∨ k = 7 ∨ k = 8 ∨ k = 9 ∨ k = 10 ∨ k = 11 ∨ k = 12 ∨ k = 13 ∨ k = 14 ∨ k = 15 ∨ k = 16 ∨ k = 17 ∨ k = 18 ∨ k = 19 ∨ k = 20 ∨ k = 21 ∨ k = 22 ∨ k = 23 ∨ k = 24 ∨ k = 25 ∨ k = 26 ∨ k = 27 ∨ 27 < k := by omega
  rcases hc with rfl | rfl | rfl | rfl | rfl | rfl | rfl | rfl | rfl | rfl | rfl | rfl | rfl | rfl | rfl | rfl | rfl | rfl | rfl | rfl | rfl | rfl | rfl | rfl | rfl | rfl | rfl | rfl | hc
  · exact zlw_0 hL hi hLI
  · exact zlw_1 hL hi hLI
  · exact zlw_2 hL hi hLI
  · exact zlw_3 hL hi hLI
  · exact zlw_4 hL hi hLI
  · exact zlw_5 hL hi hLI
  · exact zlw_6 hL hi hLI
  · exact zlw_7 hL hi hLI
  · exact zlw_8 hL hi hLI
  · exact zlw_9 hL hi hLI
  · exact zlw_10 hL hi hLI
  · exact zlw_11 hL hi hLI
  · exact zlw_12 hL hi hLI
  · exact zlw_13 hL hi hLI
  · exact zlw_14 hL hi hLI
  · exact zlw_15 hL hi hLI
  · exact zlw_16 hL hi hLI
  · exact zlw_17 hL hi hLI
  · exact zlw_18 hL hi hLI
  · exact zlw_19 hL hi hLI
  · exact zlw_20 hL hi hLI
  · exact zlw_21 hL hi hLI
  · exact zlw_22 hL hi hLI
  · exact zlw_23 hL hi hLI
  · exact zlw_24 hL hi hLI
  · exact zlw_25 hL hi hLI
  · exact zlw_26 hL hi hLI
  · exact zlw_27 hL hi hLI
  · refine ⟨h, zb_171_32_d L xs (nI i) (nI k) h (Or.inr ?_), hLI⟩
    rw [nI_toInt (by omega)]
    omega
theorem zlaw_lp {L : Nat} {xs : Nat → Int32} (hL : L ≤ 2560) (h5 : 5 ≤ L) : ∀ (n i : Nat) (h : zHp), L < i + 5 * n + 5 → i ≤ L → zLI h → ∃ h', zr_171 L xs 18 [some (.inr 84), some (.inr 0), some (.inr 76), some (.inl (nI i))] [] h = some (some (nI 1), h') := by
  intro n
  have eL : Int32.ofNat L - nI 5 = nI (L - 5) := zS_sub h5
  induction n with
  | zero =>
    intro i h hn hi hLI
    rw [zb_171_18, eL, zS_cgt (by omega) (by omega), decide_eq_true (by omega), if_pos rfl, zb_171_944, zS_bo1, if_pos rfl]
    exact ⟨h, rfl⟩
  | succ n ih =>
    intro i h hn hi hLI
    by_cases hq : L < i + 5
    · rw [zb_171_18, eL, zS_cgt (by omega) (by omega), decide_eq_true (by omega), if_pos rfl, zb_171_944, zS_bo1, if_pos rfl]
      exact ⟨h, rfl⟩
    · obtain ⟨k, hk, ek⟩ := zand31 (xs i)
      obtain ⟨h2, e2, hLI2⟩ := zlw_all (xs := xs) hL hk (show i + 5 ≤ L by omega) hLI
      obtain ⟨h', e3⟩ := ih (i + 5) h2 (by omega) (by omega) hLI2
      refine ⟨h', ?_⟩
      rw [zb_171_18, eL, zS_cgt (by omega) (by omega), decide_eq_false (by omega), if_neg (by decide), zS_ib _ (by omega), decide_eq_true (show i < L by omega), if_pos rfl, zS_cl (by omega), ek, e2, zb_171_938, zS_add, e3]
/-! the start -/
def zm0 : Nat → Nat := fun k => if k = 133 ∨ k = 138 ∨ k = 143 ∨ k = 148 then 1 else 0
theorem zm0_lo {k : Nat} (h : k < 133 ∨ k = 149) : zm0 k = 0 := by
  unfold zm0
  rw [if_neg (by omega)]
theorem zI_0 : zI zm0 := by
  have hof : ∀ c w, c < 8 → w < 5 → zof zm0 c w = 0 := fun c w hc hw => zm0_lo (by omega)
  have hln : ∀ a b, a < 8 → b < 8 → zln zm0 a b = 0 := fun a b ha hb => zm0_lo (by omega)
  have hev : zev8 zm0 = 0 := zm0_lo (by omega)
  have hnb : znb zm0 = 0 := zm0_lo (by omega)
  have hbd : ∀ a b, a < 4 → b < 4 → zbd zm0 a b ≤ 1 := fun a b _ _ => by
    unfold zbd zm0
    split <;> omega
  have hsy : ∀ a, a < 4 → ∀ b, b < 4 → zbd zm0 a b = zbd zm0 b a := by decide +kernel
  refine ⟨⟨by omega, by omega, fun c hc => ?_, fun a b ha hb => by rw [hln a b ha hb]; omega, hbd⟩, fun c hc _ => hof c 0 hc (by omega), fun c hc h => ?_, fun a b ha hb => by rw [hln a b ha hb, hln b a hb ha], fun a ha => hln a a ha ha, fun a b ha hb h => ?_, fun a b ha hb => hsy a ha b hb, ⟨fun k hk => by omega, fun j k hj _ _ => by omega, fun lo hi h1 h2 h3 => ?_⟩⟩
  · rw [hof c 0 hc (by omega), hof c 1 hc (by omega), hof c 2 hc (by omega), hof c 3 hc (by omega), hof c 4 hc (by omega)]
    omega
  · rw [hof c 4 hc (by omega)] at h
    omega
  · rw [hln a b ha hb] at h
    omega
  · rw [hln lo hi (by omega) h2] at h3
    omega
theorem zLI_0 : zLI zh0 := by
  have hev : zev8 zm0 = 0 := zm0_lo (by omega)
  have hnb : znb zm0 = 0 := zm0_lo (by omega)
  have r77 : ∀ k, k < 150 → zmn k = nI (zm0 k) := by decide +kernel
  have r5 : ∀ a, a < 4 → zfb a = nI (zfbs zm0 a) := by decide +kernel
  have ht : ∀ c, zt zm0 c = false := fun c => zt_no (by omega)
  refine ⟨zm0, [], none, [], ⟨fun k hk => r77 k hk, ⟨rfl, by decide, fun i x hx => by simp at hx⟩, ⟨rfl, fun x hx => by cases hx⟩, ⟨rfl, by decide, fun i x hx => by simp at hx⟩, rfl, rfl⟩, ⟨⟨⟨?_, ?_, ?_⟩, fun c _ h => ?_, fun a ha => r5 a ha, ?_, fun k hk => by omega⟩, ⟨rfl, by decide, 0, by omega, rfl, fun i x hx => by simp at hx⟩, ⟨rfl, fun x hx => by cases hx⟩, ⟨rfl, by decide, fun i x hx => by simp at hx⟩⟩, zI_0, fun y hy => (by cases hy), fun y hy => (by cases hy), fun x hx => (by cases hx)⟩
  · rw [hev]; rfl
  · unfold zst
    rw [hev]; rfl
  · unfold zst
    rw [hev]; rfl
  · rw [ht c] at h
    cases h
  · rw [hnb]; rfl
