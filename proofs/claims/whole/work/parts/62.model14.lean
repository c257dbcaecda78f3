/-! join of the reference. -/
theorem zS_div10 : ∀ x, x < 100 → zdiv (nI x) (nI 10) = nI (x / 10) := by decide +kernel
theorem zS_rem10 : ∀ x, x < 100 → zrem (nI x) (nI 10) = nI (x % 10) := by decide +kernel
theorem zS_nz10 : znz (nI 10) = true := by decide
theorem zS_ne5 {a : Nat} (ha : a < 2147483648) : zci .ne (nI a) (-5) = true := by
  show (!decide (nI a = -5)) = true
  rw [decide_eq_false (zS_neg a (-5) (by decide) ha)]
  rfl
theorem zS_ne55 : zci .ne (-5) (-5) = false := by decide
/-- the other end of a border, or 9 -/
def zthird (m : Nat → Nat) (k c : Nat) : Nat := if zod m k / 10 = c then zod m k % 10 else if zod m k % 10 = c then zod m k / 10 else 9
def zjl (c o : Nat) : Nat → Nat → (Nat → Nat) → (Nat → Nat)
  | 0, _, m => m
  | n + 1, p, m => if znb m ≤ p then m else if zthird m p c = 9 then zjl c o n (p + 1) m else zjl c o n p (zly (zly m c (zthird m p c) 0) o (zthird m p c) (zcap (zln m c (zthird m p c) + zln m o (zthird m p c))))
def znf (m : Nat → Nat) (c : Nat) : Nat := zbits (zset8 (fun t => decide (0 < zln m c t)) 0 8)
theorem zthird_of {m : Nat → Nat} (hI : zI m) {k c : Nat} (hc : c < 8) (hk : k < znb m) (h9 : zthird m k c ≠ 9) : zthird m k c < 8 ∧ zthird m k c ≠ c ∧ zod m k = zcd c (zthird m k c) ∧ 0 < zln m c (zthird m k c) := by
  obtain ⟨hB, i1, i2, i3, i4, i5, i6, o1, o2, o3⟩ := hI
  obtain ⟨lo, hi, p1, p2, p3, p4⟩ := o1 k hk
  have e1 : zod m k / 10 = lo := by omega
  have e2 : zod m k % 10 = hi := by omega
  unfold zthird at h9 ⊢
  rw [e1, e2] at h9 ⊢
  by_cases h1 : lo = c
  · rw [if_pos h1]
    subst h1
    exact ⟨p2, by omega, by unfold zcd; rw [if_pos p1]; exact p3, p4⟩
  · rw [if_neg h1] at h9 ⊢
    by_cases h2 : hi = c
    · rw [if_pos h2]
      subst h2
      refine ⟨by omega, h1, by unfold zcd; rw [if_neg (by omega)]; exact p3, ?_⟩
      rw [i3 _ _ hc (by omega)]
      exact p4
    · rw [if_neg h2] at h9
      exact absurd rfl h9
theorem zly_nb_er {m : Nat → Nat} {a b : Nat} (ha : a < 8) (hb : b < 8) (hn : znb m ≤ 28) (hw : zln m a b ≠ 0) : znb (zly m a b 0) = znb m - 1 := by
  have hn1 : znb (zm1 m a b 0) = znb m := zm1_un ha hb (by omega)
  unfold zly
  rw [if_neg hw, if_pos rfl]
  unfold zers zsf
  show (if 104 + _ ≤ 132 ∧ 132 < 104 + (znb (zm1 m a b 0) - 1) then _ else zu (zm1 m a b 0) 132 (znb (zm1 m a b 0) - 1) 132) = _
  rw [if_neg (by omega), zu_same, hn1]
theorem zly_nb_up {m : Nat → Nat} {a b len : Nat} (ha : a < 8) (hb : b < 8) (hl : len ≠ 0) : znb (zly m a b len) ≤ znb m + 1 ∧ znb m ≤ znb (zly m a b len) := by
  have hn1 : znb (zm1 m a b len) = znb m := zm1_un ha hb (by omega)
  unfold zly
  split
  · have : znb (zu (zu (zm1 m a b len) (104 + znb m) (zcd a b)) 132 (znb m + 1)) = znb m + 1 := zu_same _ _ _
    omega
  · omega
theorem zly_od_er {m : Nat → Nat} {a b p j : Nat} (ha : a < 8) (hb : b < 8) (hw : zln m a b ≠ 0) (hp : zfind m (zcd a b) 0 28 = p) (hj : j < p) (hj2 : j < 28) : zod (zly m a b 0) j = zod m j := by
  unfold zly
  rw [if_neg hw, if_pos rfl, hp]
  unfold zers zsf zod
  dsimp only
  rw [if_neg (by omega), zu_ne _ (by omega)]
  exact zm1_un ha hb (by omega)
theorem zly_od_up {m : Nat → Nat} {a b len j : Nat} (ha : a < 8) (hb : b < 8) (hl : len ≠ 0) (hj : j < znb m) (hn : j < 28) : zod (zly m a b len) j = zod m j := by
  unfold zly
  split
  · unfold zod
    rw [zu_ne _ (by omega), zu_ne _ (by omega)]
    exact zm1_un ha hb (by omega)
  · exact zm1_un ha hb (by omega)
theorem zfind_I {m : Nat → Nat} (hI : zI m) {k : Nat} (hk : k < znb m) : zfind m (zod m k) 0 28 = k := by
  have hn := zB_nb hI.1
  obtain ⟨hB, i1, i2, i3, i4, i5, i6, o1, o2, o3⟩ := hI
  exact zfind_eq rfl 28 0 (by omega) (by omega) (fun j _ hj he => by
    have := o2 j k (by omega) hk he
    omega)
/-- one border moved over -/
def zmov (m : Nat → Nat) (c o t : Nat) : Nat → Nat := zly (zly m c t 0) o t (zcap (zln m c t + zln m o t))
theorem zmov_ok {m : Nat → Nat} (hI : zI m) {c o p : Nat} (hc : c < 8) (ho : o < 8) (hco : c ≠ o) (h0 : zln m c o = 0) (to : zof m o 0 = 1) (hp : p < znb m) (h9 : zthird m p c ≠ 9) :
    zI (zly m c (zthird m p c) 0) ∧ zI (zmov m c o (zthird m p c)) ∧ (∀ k, k < 40 → zmov m c o (zthird m p c) k = m k) ∧ zln (zmov m c o (zthird m p c)) c o = 0 ∧ znb (zmov m c o (zthird m p c)) ≤ znb m ∧ p ≤ znb (zmov m c o (zthird m p c)) ∧ (∀ j, j < p → zod (zmov m c o (zthird m p c)) j = zod m j) ∧ znf (zmov m c o (zthird m p c)) c < znf m c := by
  obtain ⟨t1, t2, t3, t4⟩ := zthird_of hI hc hp h9
  generalize ht : zthird m p c = t at t1 t2 t3 t4 ⊢
  have hn := zB_nb hI.1
  have hto : t ≠ o := by
    intro e
    subst e
    omega
  have hI2 : zI (zly m c t 0) := zI_ly hI hc t1 (by omega) (by omega) (fun a => by omega)
  have hn2 : znb (zly m c t 0) = znb m - 1 := zly_nb_er hc t1 hn (by omega)
  have htt : zof m t 0 = 1 := hI.2.2.2.2.2.1 t c t1 hc (by rw [hI.2.2.2.1 t c t1 hc]; exact t4)
  have h40 : ∀ k, k < 40 → zly m c t 0 k = m k := fun k hk => zly_un hc t1 hn (by omega)
  have hcap : zcap (zln m c t + zln m o t) ≠ 0 := by unfold zcap; split <;> omega
  have hI3 : zI (zmov m c o t) := zI_ly hI2 ho t1 (by omega) (zcap_le _) (fun _ => ⟨(h40 (5 * o + 0) (by omega)).trans to, (h40 (5 * t + 0) (by omega)).trans htt⟩)
  have h2 := zly_nb_up (m := zly m c t 0) (a := o) (b := t) ho t1 hcap
  have hln : ∀ x, x < 8 → zln (zmov m c o t) c x = if x = t then 0 else zln m c x := by
    intro x hx
    unfold zmov
    rw [zly_ln ho t1 hc hx, if_neg (by omega), zly_ln hc t1 hc hx]
    by_cases hxt : x = t
    · rw [if_pos (Or.inl ⟨rfl, hxt⟩), if_pos hxt]
    · rw [if_neg (by omega), if_neg hxt]
  refine ⟨hI2, hI3, fun k hk => ?_, ?_, ?_, ?_, fun j hj => ?_, ?_⟩
  · unfold zmov
    rw [zly_un ho t1 (by omega) (by omega), h40 k hk]
  · rw [hln o ho, if_neg (by omega)]
    exact h0
  · unfold zmov
    omega
  · unfold zmov
    omega
  · unfold zmov
    rw [zly_od_up ho t1 hcap (by omega) (by omega)]
    exact zly_od_er hc t1 (by omega) (by rw [← t3]; exact zfind_I hI hp) hj (by omega)
  · unfold znf zbits
    have hb : ∀ (g : Nat → Bool) i, (zset8 g 0 8).testBit i = (decide (i < 8) && g i) := fun g i => by
      rw [zset8_bit]
      simp
    refine zbits_more (o := t) (fun i hi => ?_) ?_ ?_ 8 0 (by omega) (by omega)
    · rw [hb] at hi ⊢
      simp only [Bool.and_eq_true, decide_eq_true_eq] at hi ⊢
      refine ⟨hi.1, ?_⟩
      have := hi.2
      rw [hln i hi.1] at this
      split at this
      · omega
      · exact this
    · rw [hb, hln t t1, if_pos rfl]
      simp
    · rw [hb]
      simp [t1, t4]
theorem zthird_od {m m' : Nat → Nat} {j c : Nat} (h : zod m' j = zod m j) : zthird m' j c = zthird m j c := by
  unfold zthird
  rw [h]
theorem zm_jl {hs : List (Nat → Nat)} {sn : Option (Nat → Nat)} {tx : List Nat} {c o both : Nat} (hc : c < 8) (ho : o < 8) (hco : c ≠ o) : ∀ (n p : Nat) (m : Nat → Nat) (h : zHp) (d5 d6 d7 : Option zV), znb m - p + 2 * znf m c < n → zMV h m hs sn tx → zI m → zln m c o = 0 → zof m o 0 = 1 → p ≤ znb m → (∀ j, j < p → zthird m j c = 9) → ∃ (h' : zHp) (p' : Nat) (d5' d6' d7' : Option zV), zr_30 90 [some (.inr 76), some (.inl (nI c)), some (.inl (nI o)), some (.inl (nI both)), some (.inl (nI p)), d5, d6, d7] [] h = ((zM_5 [.inr 76, .inl (nI c), .inl (nI 3)] h').bind (fun r => zr_30 221 [some (.inr 76), some (.inl (nI c)), some (.inl (nI o)), some (.inl (nI both)), some (.inl (nI p')), d5', d6', d7'] (zpush r.1 []) r.2)) ∧ zMV h' (zjl c o n p m) hs sn tx ∧ zlo h h' ∧ zI (zjl c o n p m) ∧ (∀ k, k < 40 → zjl c o n p m k = m k) ∧ (∀ t, t < 8 → zln (zjl c o n p m) c t = 0) := by
  intro n
  induction n with
  | zero => intro p m h d5 d6 d7 hn; omega
  | succ n ih =>
    intro p m h d5 d6 d7 hn hV hI h0 to hp hpre
    have hnb := zB_nb hI.1
    have e4 : h 77 (nI 132).toNatClampNeg = nI (znb m) := zR_132 hV.1
    have start := zb_30_90 (nI c) (nI o) (nI both) (nI p) d5 d6 d7 h
    rw [zg132, if_pos rfl, e4, zS_cge (by omega) (by omega)] at start
    unfold zjl
    by_cases h1 : znb m ≤ p
    · rw [if_pos h1]
      rw [decide_eq_true h1, if_pos rfl] at start
      refine ⟨h, p, d5, d6, d7, start, hV, zlo_rf h, hI, fun _ _ => rfl, fun t ht => ?_⟩
      cases Nat.eq_zero_or_pos (zln m c t) with
      | inl a => exact a
      | inr a =>
        have hct : c ≠ t := by
          intro e
          subst e
          have := hI.2.2.2.2.1 c hc
          omega
        obtain ⟨lo, hi, q1, q2, q3, q4⟩ := zcd_lh hc ht hct
        obtain ⟨hB, i1, i2, i3, i4, i5, i6, o1, o2, o3⟩ := hI
        have hpos : 0 < zln m lo hi := by
          rcases q4 with ⟨rfl, rfl⟩ | ⟨rfl, rfl⟩
          · exact a
          · rw [i3 _ _ (by omega) (by omega)]; exact a
        obtain ⟨k, r1, r2⟩ := o3 lo hi q1 q2 hpos
        have h9 := hpre k (by omega)
        unfold zthird at h9
        rw [show zod m k / 10 = lo by omega, show zod m k % 10 = hi by omega] at h9
        split at h9
        · omega
        · split at h9 <;> omega
    · rw [if_neg h1]
      rw [decide_eq_false h1, if_neg (by decide), zS_add, zS_add, zS_ib _ (by omega), decide_eq_true (by omega), if_pos rfl, zS_nz10, if_pos rfl, if_pos rfl, if_pos rfl, zS_cl (show 104 + p < 2147483648 by omega), hV.1 (104 + p) (by omega)] at start
      have hod : zod m p < 100 := by
        obtain ⟨lo, hi, q1, q2, q3, q4⟩ := hI.2.2.2.2.2.2.2.1 p (by omega)
        omega
      change _ = (if zci .ne (zdiv (nI (zod m p)) (nI 10)) (nI c) = true then (if zci .ne (zrem (nI (zod m p)) (nI 10)) (nI c) = true then _ else _) else _) at start
      rw [show m (104 + p) = zod m p from rfl] at start
      rw [zS_div10 _ hod, zS_rem10 _ hod, zS_cne (by omega) (by omega), zS_cne (by omega) (by omega), zS_ne55, zS_ne5 (by omega), zS_ne5 (by omega)] at start
      by_cases h9 : zthird m p c = 9
      · rw [if_pos h9]
        have g1 : zod m p / 10 ≠ c ∧ zod m p % 10 ≠ c := by
          unfold zthird at h9
          obtain ⟨lo, hi, q1, q2, q3, q4⟩ := hI.2.2.2.2.2.2.2.1 p (by omega)
          split at h9
          · omega
          · split at h9
            · omega
            · exact ⟨by assumption, by assumption⟩
        rw [decide_eq_false g1.1, decide_eq_false g1.2, if_pos (by decide), if_pos (by decide), if_neg (by decide), zb_30_212] at start
        obtain ⟨h', p', d5', d6', d7', q1, q2, q3, q4, q5, q6⟩ := ih (p + 1) m h (some (.inl (nI (zod m p)))) (some (.inl (-5))) d7 (by omega) hV hI h0 to (by omega) (fun j hj => by
          by_cases hjp : j = p
          · rw [hjp]; exact h9
          · exact hpre j (by omega))
        exact ⟨h', p', d5', d6', d7', start.trans q1, q2, q3, q4, q5, q6⟩
      · rw [if_neg h9]
        obtain ⟨t1, t2, t3, t4⟩ := zthird_of hI hc (show p < znb m by omega) h9
        obtain ⟨w1, w2, w3, w4, w5, w6, w7, w8⟩ := zmov_ok hI hc ho hco h0 to (show p < znb m by omega) h9
        have mid : zr_30 90 [some (.inr 76), some (.inl (nI c)), some (.inl (nI o)), some (.inl (nI both)), some (.inl (nI p)), d5, d6, d7] [] h = (zM_8 [.inr 76, .inl (nI c), .inl (nI (zthird m p c))] h).bind (fun r => zr_30 173 [some (.inr 76), some (.inl (nI c)), some (.inl (nI o)), some (.inl (nI both)), some (.inl (nI p)), some (.inl (nI (zod m p))), some (.inl (nI (zthird m p c))), d7] (zpush r.1 []) r.2) := by
          rw [start]
          unfold zthird at h9 ⊢
          by_cases g1 : zod m p / 10 = c
          · rw [decide_eq_true g1, if_neg (by decide), if_pos (show true = true from rfl), if_pos g1, if_pos (show true = true from rfl)]
          · rw [if_neg g1] at h9 ⊢
            by_cases g2 : zod m p % 10 = c
            · rw [decide_eq_false g1, decide_eq_true g2, if_pos (by decide), if_neg (by decide), if_pos (show true = true from rfl), if_pos g2]
            · rw [if_neg g2] at h9
              exact absurd rfl h9
        generalize zthird m p c = t at t1 t2 t3 t4 w1 w2 w3 w4 w5 w6 w7 w8 mid ⊢
        have l1 := zB_l hI.1 hc t1
        have l2 := zB_l hI.1 ho t1
        have hto : t ≠ o := by
          intro e
          subst e
          omega
        rw [zm_len hV.1 hc t1] at mid
        simp only [Option.bind_some, zpush] at mid
        rw [zb_30_173, zm_len hV.1 ho t1] at mid
        simp only [Option.bind_some, zpush] at mid
        obtain ⟨h2, r1, r2, r3⟩ := zm_lays hV hI hc t1 (show c ≠ t by omega) (show 0 ≤ 99 by omega)
        rw [zb_30_180, r1, zS_add] at mid
        simp only [Option.bind_some, zpush] at mid
        obtain ⟨h3, s1, s2, s3⟩ := zm_lays r2 w1 ho t1 (show o ≠ t by omega) (zcap_le (zln m c t + zln m o t))
        rw [zb_30_191, zS_cle (by omega) (by omega)] at mid
        have mid2 : zr_30 90 [some (.inr 76), some (.inl (nI c)), some (.inl (nI o)), some (.inl (nI both)), some (.inl (nI p)), d5, d6, d7] [] h = zr_30 90 [some (.inr 76), some (.inl (nI c)), some (.inl (nI o)), some (.inl (nI both)), some (.inl (nI p)), some (.inl (nI (zod m p))), some (.inl (nI t)), some (.inl (nI (zln m c t + zln m o t)))] [] h3 := by
          rw [mid]
          unfold zcap at s1
          by_cases h11 : zln m c t + zln m o t ≤ 99
          · rw [if_pos h11] at s1
            rw [decide_eq_true h11, if_pos rfl, s1]
            simp only [Option.bind_some, zpush]
            rw [zb_30_212]
          · rw [if_neg h11] at s1
            rw [decide_eq_false h11, if_neg (by decide), s1]
            simp only [Option.bind_some, zpush]
            rw [zb_30_212]
        obtain ⟨h', p', d5', d6', d7', q1, q2, q3, q4, q5, q6⟩ := ih p (zmov m c o t) h3 (some (.inl (nI (zod m p)))) (some (.inl (nI t))) (some (.inl (nI (zln m c t + zln m o t)))) (by omega) s2 w2 w4 ((w3 (5 * o + 0) (by omega)).trans to) w6 (fun j hj => by
          rw [zthird_od (w7 j hj)]
          exact hpre j hj)
        exact ⟨h', p', d5', d6', d7', mid2.trans q1, q2, zlo_tr r3 (zlo_tr s3 q3), q4, fun k hk => (q5 k hk).trans (w3 k hk), q6⟩
