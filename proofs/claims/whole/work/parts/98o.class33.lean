/-! wouldCost, freedom, fewestColours of the class. -/
def zsup (m : Nat → Nat) (a b : Nat) : Nat → Nat := fun c => if c = a then znbs m a ||| 2 ^ b else if c = b then znbs m b ||| 2 ^ a else znbs m c
theorem zsup_bit {m : Nat → Nat} {a b : Nat} (hab : a ≠ b) (c o : Nat) : (zsup m a b c).testBit o = ((znbs m c).testBit o || decide ((c = a ∧ o = b) ∨ (c = b ∧ o = a))) := by
  unfold zsup
  by_cases h1 : c = a
  · rw [if_pos h1, zbit_or, h1]
    congr 1
    exact decide_eq_decide.mpr (by omega)
  · rw [if_neg h1]
    by_cases h2 : c = b
    · rw [if_pos h2, zbit_or, h2]
      congr 1
      exact decide_eq_decide.mpr (by omega)
    · rw [if_neg h2, decide_eq_false (by omega), Bool.or_false]
theorem zNC_s {m : Nat → Nat} (hI : zI m) {a b : Nat} (ha : a < 8) (hb : b < 8) (hab : a ≠ b) (ta : zt m a = true) (tb : zt m b = true) : zNC m (zopn m) (zsup m a b) := fun c hc ht => by
  have he := zB_ev hI.1
  have hl : ∀ x, znbs m x < 256 := fun x => zset8_lt _ he
  have hp : ∀ x, x < 8 → 2 ^ x < 256 := fun x hx => Nat.pow_lt_pow_right (a := 2) (by omega) hx
  refine ⟨zopn_lt hI.1 hc, ?_, fun o ho hbit => ?_⟩
  · unfold zsup
    split
    · exact zS_lt256 (hl a) (hp b hb)
    · split
      · exact zS_lt256 (hl b) (hp a ha)
      · exact hl c
  · rw [zsup_bit hab, Bool.or_eq_true, decide_eq_true_iff] at hbit
    rw [zsup_bit hab]
    rcases hbit with h | h
    · obtain ⟨x, y⟩ := (zNC_b hI c hc ht).2.2 o ho h
      rw [y]
      exact ⟨x, rfl⟩
    · rw [decide_eq_true (show (o = a ∧ c = b) ∨ (o = b ∧ c = a) by omega), Bool.or_true]
      rcases h with ⟨_, rfl⟩ | ⟨_, rfl⟩
      · exact ⟨tb, rfl⟩
      · exact ⟨ta, rfl⟩
theorem zgs_sp {m : Nat → Nat} (hI : zI m) {a b : Nat} (ha : a < 8) (hb : b < 8) (hab : a ≠ b) (ta : zt m a = true) (tb : zt m b = true) : zgs m (zopn m) (zsup m a b) 8 0 zp0 = zall1 m (nI a) (nI b) := by
  have he := zB_ev hI.1
  have := zgs_sol (m := m) (op := zopn m) (nb := zsup m a b) (e1 := nI a) (e2 := nI b) (fun i p v hi ht hv hp => zfit_cof hI (fun i o hi ho ht => by
    rw [zsup_bit hab, znbs_bit hI hi (by omega)]
    unfold zadj
    have q : ∀ x y, x < 8 → y < 8 → decide (nI x = nI y) = decide (x = y) := fun x y hx hy => decide_eq_decide.mpr (nI_eq (by omega) (by omega))
    rw [q i a hi ha, q o b (by omega) hb, q i b hi hb, q o a (by omega) ha]
    rw [Bool.eq_iff_iff]
    simp only [Bool.or_eq_true, Bool.and_eq_true, decide_eq_true_eq]
    constructor
    · rintro (h | h)
      · exact ⟨(zI_ev hI hi (show o < 8 by omega) h).2, Or.inl h⟩
      · refine ⟨?_, Or.inr h⟩
        rcases h with ⟨_, rfl⟩ | ⟨_, rfl⟩
        · exact tb
        · exact ta
    · rintro ⟨_, h | h⟩
      · exact Or.inl h
      · exact Or.inr h) i p v hi ht hv hp) (zev8 m) 0 zp0 (by omega) (fun _ _ => rfl) (fun o ho => by omega)
  rw [show zev8 m + (8 - zev8 m) = 8 by omega] at this
  exact this
theorem zn_would {h : zHp} {m : Nat → Nat} {hs : List (Nat → Nat)} {sn : Option (Nat → Nat)} {tx : List Nat} (hV : zCV h m hs sn tx) (hI : zI m) (a b : Int32) : zCAns (zM_138 [.inr 0, .inl a, .inl b]) (zqWould m a b, none) h m hs sn tx := by
  have hS := hV.1
  have hB := hI.1
  have he := zB_ev hB
  have e1 := ze_138 a b h
  rw [zn_there hS hB] at e1
  simp only [Option.bind_some, zpush] at e1
  rw [zb_138_8, zS_b0] at e1
  unfold zqWould
  cases h1 : zth m a with
  | false =>
    rw [h1, if_pos (by decide)] at e1
    exact zCAns_no hV e1
  | true =>
  rw [h1, if_neg (by decide), zn_there hS hB] at e1
  simp only [Option.bind_some, zpush] at e1
  rw [zb_138_19, zS_b0n] at e1
  rw [if_neg (by decide)]
  cases h2 : zth m b with
  | false =>
    rw [h2, if_neg (by decide)] at e1
    exact zCAns_no hV e1
  | true =>
  obtain ⟨x, hx, hx1, rfl⟩ := zth_of h1
  obtain ⟨y, hy, hy1, rfl⟩ := zth_of h2
  have hx8 : x < 8 := by omega
  have hy8 : y < 8 := by omega
  have tx1 := zt_of hx hx1
  have ty1 := zt_of hy hy1
  rw [h2, if_pos rfl, zS_cne (by omega) (by omega)] at e1
  rw [if_neg (by decide)]
  by_cases h3 : x = y
  · rw [decide_eq_true h3, if_neg (by decide)] at e1
    rw [if_pos (by rw [h3])]
    exact zCAns_no hV e1
  obtain ⟨g, r1, r2, r3, r4, r5⟩ := zn_prp hS hI
  rw [decide_eq_false h3, if_pos (by decide), r1] at e1
  simp only [Option.bind_some, zpush] at e1
  have v1 := r4 x hx8
  have v2 := r4 y hy8
  have es : zM_137 [.inr 62, .inl (nI x), .inl (nI y)] g = some (none, zup (zup g 73 x (nI (znbs m x ||| 2 ^ y))) 73 y (nI (znbs m y ||| 2 ^ x))) := by
    rw [ze_137, zS_ib _ (show x < 2147483648 by omega), zS_ib _ (show y < 2147483648 by omega), decide_eq_true hx8, decide_eq_true hy8, if_pos rfl, if_pos rfl, if_pos rfl, if_pos rfl, zS_cl (show x < 2147483648 by omega), zS_cl (show y < 2147483648 by omega), v1, zS_shl1 _ (show x < 16 by omega), zS_shl1 _ (show y < 16 by omega), zS_or, zS_zup_nk _ _ (show y ≠ x from fun e => h3 e.symm), v2, zS_or]
  rw [zb_138_43, es] at e1
  simp only [Option.bind_some, zpush] at e1
  have hz : ∀ b j, b ≠ 73 → zup (zup g 73 x (nI (znbs m x ||| 2 ^ y))) 73 y (nI (znbs m y ||| 2 ^ x)) b j = g b j := fun b j hb => by rw [zS_zup_ne _ hb, zS_zup_ne _ hb]
  have hR : zRP (zup (zup g 73 x (nI (znbs m x ||| 2 ^ y))) 73 y (nI (znbs m y ||| 2 ^ x))) m (zopn m) (zsup m x y) := by
    refine ⟨zSr_fr r2 (fun b j _ _ => hz b j (by omega)), fun c hc ht => by rw [hz _ _ (by omega)]; exact r3 c hc ht, fun c hc ht => ?_⟩
    unfold zsup
    by_cases hcx : c = x
    · rw [if_pos hcx, hcx, zS_zup_nk _ _ h3, zS_zup_same]
    · rw [if_neg hcx]
      by_cases hcy : c = y
      · rw [if_pos hcy, hcy, zS_zup_same]
      · rw [if_neg hcy, zS_zup_nk _ _ hcy, zS_zup_nk _ _ hcx]
        exact r4 c hc
  obtain ⟨g', s1, s2, s3⟩ := zn_fl hI (zNC_s hI hx8 hy8 h3 tx1 ty1) hR
  rw [zgs_sp hI hx8 hy8 h3 tx1 ty1] at s1 s2
  have hlow : ∀ b j, b < 62 ∨ 76 ≤ b → g' b j = h b j := fun b j hb => by rw [s3 b j (by omega), hz b j (by omega), r5 b j (by omega)]
  rw [zb_138_52, s1] at e1
  simp only [Option.bind_some, zpush] at e1
  rw [zb_138_59, zS_b0n] at e1
  rw [if_neg (znI_ne (by omega) (by omega) h3)]
  cases hb : zbs m (zall1 m (nI x) (nI y)) with
  | none =>
    rw [hb, if_neg (by decide)] at e1
    exact ⟨g', e1, zCV_se hV (fun b j hb => hlow b j (by omega)), fun b hb j => hlow b j (by omega)⟩
  | some q =>
    rw [hb] at s2
    rw [hb, if_pos (show (some q).isSome = true from rfl), (s2.2 q rfl).1] at e1
    exact ⟨g', e1, zCV_se hV (fun b j hb => hlow b j (by omega)), fun b hb j => hlow b j (by omega)⟩
/-- fewer colours open -/
theorem zres {m op nb R : Nat → Nat} (hop : ∀ c, c < 8 → zt m c = true → op c < 16) (q : Nat → Nat) : q ∈ zgs m (fun c => op c &&& R c) nb 8 0 zp0 ↔ q ∈ zgs m op nb 8 0 zp0 ∧ ∀ c, c < 8 → zt m c = true → (R c).testBit (q c) = true := by
  have hb : ∀ c, c < 8 → zt m c = true → ∀ v, (zcof m (fun c => op c &&& R c) nb c q).testBit v = true ↔ (zcof m op nb c q).testBit v = true ∧ (R c).testBit v = true := fun c hc ht v => by
    have h16 := hop c hc ht
    unfold zcof
    rw [zcfl_bit _ _ _ (show op c &&& R c < 256 from zclr_lt _ (by omega)), zcfl_bit _ _ _ (show op c < 256 by omega), Nat.testBit_and, Bool.and_eq_true]
    constructor
    · rintro ⟨⟨a, b⟩, d⟩
      exact ⟨⟨a, d⟩, b⟩
    · rintro ⟨⟨a, d⟩, b⟩
      exact ⟨⟨a, b⟩, d⟩
  rw [zgs_mem, zgs_mem]
  constructor
  · rintro ⟨a, b⟩
    refine ⟨⟨a, fun c c1 c2 => ⟨fun ht => ?_, (b c c1 c2).2⟩⟩, fun c hc ht => ?_⟩
    · obtain ⟨x, y⟩ := (b c c1 c2).1 ht
      exact ⟨x, ((hb c (by omega) ht _).mp y).1⟩
    · obtain ⟨x, y⟩ := (b c (by omega) (by omega)).1 ht
      exact ((hb c hc ht _).mp y).2
  · rintro ⟨⟨a, b⟩, d⟩
    refine ⟨a, fun c c1 c2 => ⟨fun ht => ?_, (b c c1 c2).2⟩⟩
    obtain ⟨x, y⟩ := (b c c1 c2).1 ht
    exact ⟨x, (hb c (by omega) ht _).mpr ⟨y, d c (by omega) ht⟩⟩
theorem zne_iff {L : List (Nat → Nat)} : zne L = true ↔ ∃ q, q ∈ L := by
  unfold zne
  rw [decide_eq_true_iff]
  constructor
  · intro h
    exact ⟨L[0], List.getElem_mem h⟩
  · rintro ⟨q, hq⟩
    exact List.length_pos_of_mem hq
theorem zNC_r {m op nb : Nat → Nat} (R : Nat → Nat) (hN : zNC m op nb) : zNC m (fun c => op c &&& R c) nb := fun c hc ht => by
  obtain ⟨a, b⟩ := hN c hc ht
  exact ⟨Nat.lt_of_le_of_lt Nat.and_le_left a, b⟩
theorem zfre_bit {m : Nat → Nat} {c v : Nat} (ht : zt m c = true) : ∀ (L : List (Nat → Nat)) (F : Nat → Nat), ((L.foldl (fun F p => zfr m p F (zev8 m)) F) c).testBit v = true ↔ (F c).testBit v = true ∨ ∃ q, q ∈ L ∧ q c = v := by
  intro L
  induction L with
  | nil =>
    intro F
    constructor
    · intro h
      exact Or.inl h
    · rintro (h | ⟨q, hq, _⟩)
      · exact h
      · cases hq
  | cons p L ih =>
    intro F
    show ((L.foldl (fun F p => zfr m p F (zev8 m)) (zfr m p F (zev8 m))) c).testBit v = true ↔ _
    rw [ih]
    have e : zfr m p F (zev8 m) c = F c ||| 2 ^ p c := by
      unfold zfr
      rw [if_pos ⟨zt_lt ht, ht⟩]
    rw [e, zbit_or, Bool.or_eq_true, decide_eq_true_iff]
    constructor
    · rintro ((h | h) | ⟨q, hq, h⟩)
      · exact Or.inl h
      · exact Or.inr ⟨p, List.mem_cons_self, h⟩
      · exact Or.inr ⟨q, List.mem_cons_of_mem _ hq, h⟩
    · rintro (h | ⟨q, hq, h⟩)
      · exact Or.inl (Or.inl h)
      · rcases List.mem_cons.mp hq with rfl | hq
        · exact Or.inl (Or.inr h)
        · exact Or.inr ⟨q, hq, h⟩
theorem zE_q4 {m q : Nat → Nat} (hI : zI m) (hq : q ∈ zgs m (zopn m) (znbs m) 8 0 zp0) {c : Nat} (hc : c < 8) (ht : zt m c = true) : q c < 4 := (((zgs_mem 8 0 zp0 q).mp hq).2 c (by omega) (by omega)).1 ht |>.1
theorem zb15 : ∀ v, v < 4 → Nat.testBit 15 v = true := by decide
theorem zand15 : ∀ x, x < 16 → x &&& 15 = x := by decide
/-- whether a country may have a colour in any repaint -/
def zfq (m : Nat → Nat) (n v : Nat) : Bool := zne (zgs m (fun c => zopn m c &&& (if c = n then 2 ^ v else 15)) (znbs m) 8 0 zp0)
theorem zfq_iff {m : Nat → Nat} (hI : zI m) {n v : Nat} (hn : n < 8) (ht : zt m n = true) : zfq m n v = true ↔ ∃ q, q ∈ zEs m ∧ q n = v := by
  unfold zfq
  rw [zne_iff]
  constructor
  · rintro ⟨q, hq⟩
    obtain ⟨a, b⟩ := (zres (fun c hc ht => zopn_lt hI.1 hc) q).mp hq
    have := b n hn ht
    rw [if_pos rfl, Nat.testBit_two_pow] at this
    exact ⟨q, by rw [← zgs_b hI]; exact a, (of_decide_eq_true this).symm⟩
  · rintro ⟨q, hq, hv⟩
    rw [← zgs_b hI] at hq
    refine ⟨q, (zres (fun c hc ht => zopn_lt hI.1 hc) q).mpr ⟨hq, fun c hc htc => ?_⟩⟩
    split
    · rename_i hcn
      rw [Nat.testBit_two_pow, hcn, hv]
      exact decide_eq_true rfl
    · exact zb15 _ (zE_q4 hI hq hc htc)
theorem zn_fre1 {m : Nat → Nat} {hs : List (Nat → Nat)} {sn : Option (Nat → Nat)} {tx : List Nat} (hI : zI m) {c : Nat} (hc : c < 8) (ht : zt m c = true) : ∀ (n v acc : Nat) (h : zHp), v + n = 4 → zCV h m hs sn tx → ∃ h', zr_163 17 [some (.inr 0), some (.inl (nI c)), some (.inl (nI acc)), some (.inl (nI v))] [] h = some (some (nI (acc ||| zset8 (zfq m c) v n)), h') ∧ zCV h' m hs sn tx ∧ zhi h h' := by
  intro n
  induction n with
  | zero =>
    intro v acc h hv hV
    refine ⟨h, ?_, hV, zhi_rf _⟩
    rw [zb_163_17, zS_cge (by omega) (by omega), decide_eq_true (by omega), if_pos rfl]
    simp [zset8]
  | succ n ih =>
    intro v acc h hv hV
    obtain ⟨g, r1, r2, r3, r4, r5⟩ := zn_prp hV.1 hI
    have hz : ∀ b j, b ≠ 72 → zup g 72 c (nI (zopn m c &&& 2 ^ v)) b j = g b j := fun b j hb => zS_zup_ne _ hb _ _ _
    have hR : zRP (zup g 72 c (nI (zopn m c &&& 2 ^ v))) m (fun d => zopn m d &&& (if d = c then 2 ^ v else 15)) (znbs m) := by
      refine ⟨zSr_fr r2 (fun b j _ _ => hz b j (by omega)), fun d hd htd => ?_, fun d hd _ => by rw [hz _ _ (by omega)]; exact r4 d hd⟩
      show _ = nI (zopn m d &&& (if d = c then 2 ^ v else 15))
      by_cases hdc : d = c
      · subst hdc
        rw [zS_zup_same, if_pos rfl]
      · rw [zS_zup_nk _ _ hdc, if_neg hdc, zand15 _ (zopn_lt hI.1 hd)]
        exact r3 d hd htd
    obtain ⟨g', s1, s2⟩ := zn_can8 hI.1 (zNC_r _ (zNC_b hI)) hR
    have hlow : ∀ b j, b < 62 ∨ 76 ≤ b → g' b j = h b j := fun b j hb => by rw [s2 b j (by omega), hz b j (by omega), r5 b j (by omega)]
    have hV' : zCV g' m hs sn tx := zCV_se hV (fun b j hb => hlow b j (by omega))
    rw [zb_163_17, zS_cge (by omega) (by omega), decide_eq_false (by omega), if_neg (by decide), r1]
    simp only [Option.bind_some, zpush]
    rw [zb_163_33, zS_ib _ (by omega), decide_eq_true hc, if_pos rfl, if_pos rfl, zS_cl (by omega), r3 c hc ht, zS_shl1 _ (by omega), zS_and, s1]
    simp only [Option.bind_some, zpush]
    rw [zb_163_55, zS_b0, zS_add, zS_shl1 _ (by omega), zS_or]
    have es : zset8 (zfq m c) v (n + 1) = (if zfq m c v = true then 2 ^ v else 0) ||| zset8 (zfq m c) (v + 1) n := rfl
    have ef : zne (zgs m (fun d => zopn m d &&& (if d = c then 2 ^ v else 15)) (znbs m) 8 0 zp0) = zfq m c v := rfl
    rw [es, ef]
    cases hq : zfq m c v with
    | false =>
      obtain ⟨h', t1, t2, t3⟩ := ih (v + 1) acc g' (by omega) hV'
      rw [if_pos (by decide), if_neg (by decide), Nat.zero_or]
      exact ⟨h', t1, t2, zhi_tr (fun b hb j => hlow b j (by omega)) t3⟩
    | true =>
      obtain ⟨h', t1, t2, t3⟩ := ih (v + 1) (acc ||| 2 ^ v) g' (by omega) hV'
      rw [if_neg (by decide), if_pos rfl, ← Nat.or_assoc]
      exact ⟨h', t1, t2, zhi_tr (fun b hb j => hlow b j (by omega)) t3⟩
theorem zn_free {h : zHp} {m : Nat → Nat} {hs : List (Nat → Nat)} {sn : Option (Nat → Nat)} {tx : List Nat} (hV : zCV h m hs sn tx) (hI : zI m) (c : Int32) : zCAns (zM_163 [.inr 0, .inl c]) (zqFree m c, none) h m hs sn tx := by
  have he := zB_ev hI.1
  have e1 := ze_163 c h
  rw [zn_there hV.1 hI.1] at e1
  simp only [Option.bind_some, zpush] at e1
  rw [zb_163_8, zS_b0n] at e1
  unfold zqFree
  cases h1 : zth m c with
  | false =>
    rw [h1, if_neg (by decide)] at e1
    exact zCAns_no hV e1
  | true =>
  obtain ⟨n, hn, hn1, rfl⟩ := zth_of h1
  have tn := zt_of hn hn1
  obtain ⟨h', r1, r2, r3⟩ := zn_fre1 hI (show n < 8 by omega) tn 4 0 0 h (by omega) hV
  rw [h1, if_pos rfl, r1, Nat.zero_or] at e1
  rw [if_neg (by decide), zS_cl (show n < 2147483648 by omega)]
  have ez : zset8 (zfq m n) 0 4 = zfre m (zEs m) n := by
    apply Nat.eq_of_testBit_eq
    intro v
    rw [Bool.eq_iff_iff]
    unfold zfre
    rw [zfre_bit tn, zset8_bit]
    simp only [Bool.and_eq_true, decide_eq_true_eq]
    rw [zfq_iff hI (by omega) tn]
    constructor
    · rintro ⟨_, h⟩
      exact Or.inr h
    · rintro (h | ⟨q, hq, hv⟩)
      · simp at h
      · have hq2 := hq
        rw [← zgs_b hI] at hq2
        have := zE_q4 hI hq2 (show n < 8 by omega) tn
        exact ⟨by omega, ⟨q, hq, hv⟩⟩
  rw [ez] at e1
  exact ⟨h', e1, r2, r3⟩
