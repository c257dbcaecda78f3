/-! The reference's search: what a repaint found does. -/
def zcost (m : Nat → Nat) (p : Nat → Nat) : Nat := zsum (fun c => if zt m c = true ∧ p c ≠ zof m c 1 then zof m c 3 else 0) 0 (zev8 m)
def zpk (m : Nat → Nat) (p : Nat → Nat) : Nat → Nat → Nat
  | _, 0 => 0
  | c, n + 1 => (if zt m c = true then 2 ^ p c else 0) ||| zpk m p (c + 1) n
def zpcs (m : Nat → Nat) (p : Nat → Nat) : Nat := zpk m p 0 (zev8 m)
theorem zpk_lt {m p : Nat → Nat} {N : Nat} (hp : ∀ c, c < N → p c < 4) : ∀ (n c : Nat), c + n ≤ N → zpk m p c n < 2 ^ 4 := by
  intro n
  induction n with
  | zero => intro c _; exact (by decide : 0 < 2 ^ 4)
  | succ n ih =>
    intro c hc
    unfold zpk
    refine Nat.or_lt_two_pow ?_ (ih (c + 1) (by omega))
    split
    · exact Nat.pow_lt_pow_right (by omega) (hp c (by omega))
    · decide
theorem zcost_le {m : Nat → Nat} (hB : zB m) (p : Nat → Nat) : zcost m p ≤ 792 := by
  have he := zB_ev hB
  have h1 := zsum_le (f := fun c => if zt m c = true ∧ p c ≠ zof m c 1 then zof m c 3 else 0) (b := 99) (zev8 m) 0 (fun j _ hj => by
    have := zB_3 hB (c := j) (by omega)
    show (if zt m j = true ∧ p j ≠ zof m j 1 then zof m j 3 else 0) ≤ 99
    split <;> omega)
  unfold zcost
  omega
def zfr (m p F : Nat → Nat) (x : Nat) : Nat → Nat := fun c => if c < x ∧ zt m c = true then F c ||| 2 ^ p c else F c
def zbst (m : Nat → Nat) (b : Option (Nat → Nat)) (p : Nat → Nat) : Option (Nat → Nat) := match b with
  | none => some p
  | some q => if zcost m p < zcost m q then some p else some q
def zbs (m : Nat → Nat) (L : List (Nat → Nat)) : Option (Nat → Nat) := L.foldl (zbst m) none
def zfwst (m : Nat → Nat) (b : Option Nat) (p : Nat → Nat) : Option Nat := match b with
  | none => some (zbits (zpcs m p))
  | some x => if zbits (zpcs m p) < x then some (zbits (zpcs m p)) else some x
def zfw (m : Nat → Nat) (L : List (Nat → Nat)) : Option Nat := L.foldl (zfwst m) none
def zfre (m : Nat → Nat) (L : List (Nat → Nat)) : Nat → Nat := L.foldl (fun F p => zfr m p F (zev8 m)) (fun _ => 0)
theorem zbs_ap (m : Nat → Nat) (L : List (Nat → Nat)) (p : Nat → Nat) : zbs m (L ++ [p]) = zbst m (zbs m L) p := by
  unfold zbs
  rw [List.foldl_append]
  rfl
theorem zfw_ap (m : Nat → Nat) (L : List (Nat → Nat)) (p : Nat → Nat) : zfw m (L ++ [p]) = zfwst m (zfw m L) p := by
  unfold zfw
  rw [List.foldl_append]
  rfl
theorem zfre_ap (m : Nat → Nat) (L : List (Nat → Nat)) (p : Nat → Nat) : zfre m (L ++ [p]) = zfr m p (zfre m L) (zev8 m) := by
  unfold zfre
  rw [List.foldl_append]
  rfl
theorem zbs_some (m : Nat → Nat) : ∀ (L : List (Nat → Nat)) (b : Nat → Nat), ∃ q, L.foldl (zbst m) (some b) = some q := by
  intro L
  induction L with
  | nil => intro b; exact ⟨b, rfl⟩
  | cons a L ih =>
    intro b
    rw [List.foldl_cons]
    unfold zbst
    dsimp only
    split
    · exact ih a
    · exact ih b
theorem zbs_ne {m : Nat → Nat} {L : List (Nat → Nat)} (h : L.length ≠ 0) : ∃ q, zbs m L = some q := by
  cases L with
  | nil => exact absurd rfl h
  | cons a L => exact zbs_some m L a
theorem zfw_some (m : Nat → Nat) : ∀ (L : List (Nat → Nat)) (b : Nat), ∃ q, L.foldl (zfwst m) (some b) = some q := by
  intro L
  induction L with
  | nil => intro b; exact ⟨b, rfl⟩
  | cons a L ih =>
    intro b
    rw [List.foldl_cons]
    unfold zfwst
    dsimp only
    split
    · exact ih _
    · exact ih b
theorem zfw_ne {m : Nat → Nat} {L : List (Nat → Nat)} (h : L.length ≠ 0) : ∃ q, zfw m L = some q := by
  cases L with
  | nil => exact absurd rfl h
  | cons a L => exact zfw_some m L _
/-- the search so far -/
def zAc (m : Nat → Nat) (h : zHp) (L : List (Nat → Nat)) : Prop := h 76 9 = nI L.length ∧ (∀ c, c < 8 → h 82 c = nI (zfre m L c)) ∧ (∀ q, zbs m L = some q → h 76 8 = nI (zcost m q) ∧ ∀ c, c < zev8 m → h 81 c = nI (q c)) ∧ (∀ x, zfw m L = some x → x ≤ 8 ∧ h 76 10 = nI x)
/-- a search keeps all but its own cells -/
def zKp (h h' : zHp) : Prop := ∀ b j, b ≠ 80 → b ≠ 81 → b ≠ 82 → ¬ (b = 76 ∧ (j = 8 ∨ j = 9 ∨ j = 10)) → h' b j = h b j
theorem zKp_rf (h : zHp) : zKp h h := fun _ _ _ _ _ _ => rfl
theorem zKp_tr {h h' h'' : zHp} (a : zKp h h') (b : zKp h' h'') : zKp h h'' := fun c j h1 h2 h3 h4 => by rw [b c j h1 h2 h3 h4, a c j h1 h2 h3 h4]
theorem zKp_up {h h' : zHp} (a : zKp h h') {b k : Nat} (hb : b = 80 ∨ b = 81 ∨ b = 82 ∨ (b = 76 ∧ (k = 8 ∨ k = 9 ∨ k = 10))) (x : Int32) : zKp h (zup h' b k x) := fun c j h1 h2 h3 h4 => by
  have : zup h' b k x c j = h' c j := by
    unfold zup
    rw [if_neg]
    rintro ⟨rfl, rfl⟩
    omega
  rw [this, a c j h1 h2 h3 h4]
theorem zKp_R {h h' : zHp} {m : Nat → Nat} (a : zKp h h') (hR : zR h m) : zR h' m := fun k hk => by rw [a 77 k (by omega) (by omega) (by omega) (by omega), hR k hk]
theorem zKp_lo {h h' : zHp} (a : zKp h h') : zlo h h' := fun b hb j => a b j (by omega) (by omega) (by omega) (by omega)
theorem zKp_V {h h' : zHp} {m : Nat → Nat} {hs : List (Nat → Nat)} {sn : Option (Nat → Nat)} {tx : List Nat} (a : zKp h h') (hV : zMV h m hs sn tx) : zMV h' m hs sn tx := zMV_keep hV (fun j => a 77 j (by omega) (by omega) (by omega) (by omega)) (fun j => a 78 j (by omega) (by omega) (by omega) (by omega)) (fun j => a 79 j (by omega) (by omega) (by omega) (by omega)) (fun j => a 83 j (by omega) (by omega) (by omega) (by omega)) (fun j hj => a 76 j (by omega) (by omega) (by omega) (by omega))
theorem zm_meet1 {m p F : Nat → Nat} (hB : zB m) (hp4 : ∀ c, c < zev8 m → p c < 4) : ∀ (n x a b : Nat) (h : zHp), x + n = zev8 m → zR h m → (∀ c, c < zev8 m → h 80 c = nI (p c)) → (∀ c, c < 8 → h 82 c = nI (zfr m p F x c)) → ∃ h', zr_32 6 [some (.inr 76), some (.inl (nI a)), some (.inl (nI b)), some (.inl (nI x))] [] h = zr_32 6 [some (.inr 76), some (.inl (nI (a + zsum (fun c => if zt m c = true ∧ p c ≠ zof m c 1 then zof m c 3 else 0) x n))), some (.inl (nI (b ||| zpk m p x n))), some (.inl (nI (zev8 m)))] [] h' ∧ (∀ c, c < 8 → h' 82 c = nI (zfr m p F (zev8 m) c)) ∧ (∀ b j, b ≠ 82 → h' b j = h b j) := by
  have he := zB_ev hB
  intro n
  induction n with
  | zero =>
    intro x a b h hx hR h80 h82
    have hx : x = zev8 m := by omega
    subst hx
    refine ⟨h, ?_, h82, fun _ _ _ => rfl⟩
    simp [zsum, zpk]
  | succ n ih =>
    intro x a b h hx hR h80 h82
    have b1 := zB_1 hB (c := x) (by omega)
    have px := hp4 x (by omega)
    have es : a + zsum (fun c => if zt m c = true ∧ p c ≠ zof m c 1 then zof m c 3 else 0) x (n + 1) = (a + (if zt m x = true ∧ p x ≠ zof m x 1 then zof m x 3 else 0)) + zsum (fun c => if zt m c = true ∧ p c ≠ zof m c 1 then zof m c 3 else 0) (x + 1) n := by
      simp only [zsum, Nat.add_assoc]
    have eb : (b ||| zpk m p x (n + 1)) = (b ||| (if zt m x = true then 2 ^ p x else 0)) ||| zpk m p (x + 1) n := by
      rw [Nat.or_assoc]
      rfl
    have start : zr_32 6 [some (.inr 76), some (.inl (nI a)), some (.inl (nI b)), some (.inl (nI x))] [] h = zr_32 23 [some (.inr 76), some (.inl (nI a)), some (.inl (nI b)), some (.inl (nI x))] [.inl (nI (zt m x).toNat)] h := by
      rw [zb_32_6, zg149, zR_149 hR, zS_cge (by omega) (by omega), if_pos rfl, decide_eq_false (by omega), if_neg (by decide), zm_there_n hR hB (by omega)]
      simp only [Option.bind_some, zpush]
    rw [zb_32_23, zS_b0, zS_add] at start
    rw [es, eb]
    cases h1 : zt m x with
    | false =>
      rw [h1, if_pos (by decide)] at start
      obtain ⟨h', q1, q2, q3⟩ := ih (x + 1) a b h (by omega) hR h80 (fun c hc => by
        rw [h82 c hc]
        unfold zfr
        by_cases hcx : c = x
        · rw [hcx, h1, if_neg (by omega), if_neg (by simp)]
        · by_cases h2 : c < x ∧ zt m c = true
          · rw [if_pos h2, if_pos ⟨by omega, h2.2⟩]
          · rw [if_neg h2, if_neg (fun e => h2 ⟨by omega, e.2⟩)])
      refine ⟨h', ?_, q2, q3⟩
      rw [start, q1]
      simp
    | true =>
      have e8 : h 82 x = nI (F x) := by
        rw [h82 x (by omega)]
        unfold zfr
        rw [if_neg (by omega)]
      have start2 : zr_32 6 [some (.inr 76), some (.inl (nI a)), some (.inl (nI b)), some (.inl (nI x))] [] h = zr_32 52 [some (.inr 76), some (.inl (nI a)), some (.inl (nI b)), some (.inl (nI x))] [.inl (nI (if p x ≠ zof m x 1 then zof m x 3 else 0)), .inl (nI a)] h := by
        rw [start, h1, if_neg (by decide), zS_ib _ (by omega), decide_eq_true (by omega), if_pos rfl, zm_of hR (by omega), zS_cl (by omega), h80 x (by omega)]
        simp only [Option.bind_some, zpush]
        rw [zb_32_39, zS_cne (by omega) (by omega)]
        by_cases h2 : p x = zof m x 1
        · rw [decide_eq_true h2, if_neg (by decide), if_neg (by omega)]
        · rw [decide_eq_false h2, if_pos (by decide), zm_of hR (by omega), if_pos h2]
          simp only [Option.bind_some, zpush]
      rw [zb_32_52, zS_ib _ (by omega), decide_eq_true (by omega), if_pos rfl, if_pos rfl, if_pos rfl, if_pos rfl, zS_cl (by omega), h80 x (by omega), e8, zS_shl1 _ (by omega), zS_or, zS_or, zS_add, zS_add] at start2
      obtain ⟨h', q1, q2, q3⟩ := ih (x + 1) (a + (if p x ≠ zof m x 1 then zof m x 3 else 0)) (b ||| 2 ^ p x) (zup h 82 x (nI (F x ||| 2 ^ p x))) (by omega) (fun k hk => by rw [zS_zup_ne _ (by omega), hR k hk]) (fun c hc => by rw [zS_zup_ne _ (by omega), h80 c hc]) (fun c hc => by
        by_cases hcx : c = x
        · subst hcx
          rw [zS_zup_same]
          unfold zfr
          rw [if_pos ⟨by omega, h1⟩]
        · rw [zS_zup_nk _ _ hcx, h82 c hc]
          unfold zfr
          by_cases h2 : c < x ∧ zt m c = true
          · rw [if_pos h2, if_pos ⟨by omega, h2.2⟩]
          · rw [if_neg h2, if_neg (fun e => h2 ⟨by omega, e.2⟩)])
      refine ⟨h', ?_, q2, fun b j hb => by rw [q3 b j hb, zS_zup_ne _ hb]⟩
      rw [start2, q1]
      simp
theorem zm_meet2 (h : zHp) {b : Nat} (hb : b < 256) (d1 : Option zV) : ∀ (n x : Nat), x + n = 8 → zr_32 110 [some (.inr 76), d1, some (.inl (nI b)), some (.inl (nI x))] [] (zcy h 81 0 80 0 x) = zr_32 138 [some (.inr 76), d1, some (.inl (nI b)), some (.inl (nI 8))] [.inl (nI (zbits b))] (zcy h 81 0 80 0 8) := by
  intro n
  induction n with
  | zero =>
    intro x hx
    have hx : x = 8 := by omega
    subst hx
    rw [zb_32_110, zS_cge (by omega) (by omega), decide_eq_true (by omega), if_pos rfl, zm_bits _ hb]
    simp only [Option.bind_some, zpush]
  | succ n ih =>
    intro x hx
    have h2 := ih (x + 1) (by omega)
    have h3 := zcy_step h (d := 81) (s := 80) (by omega) 0 0 x
    rw [Nat.zero_add] at h3
    rw [zb_32_110, zS_cge (by omega) (by omega), decide_eq_false (by omega), if_neg (by decide), zS_ib _ (by omega), decide_eq_true (by omega), if_pos rfl, if_pos rfl, zS_cl (by omega), h3, zS_add]
    exact h2
