/-! The class's heap as a whole; paint, keep, restore, clearText of the class. -/
def zCS (h : zHp) (sn : Option (Nat → Nat)) : Prop := h 0 2 = nI sn.isSome.toNat ∧ ∀ x, sn = some x → zSr h 10 x
def zCT2 (h : zHp) (tx : List Nat) : Prop := h 57 0 = nI tx.length ∧ tx.length ≤ 60 ∧ ∀ i (x : Nat), tx[i]? = some x → h 58 i = nI x
def zCV (h : zHp) (m : Nat → Nat) (hs : List (Nat → Nat)) (sn : Option (Nat → Nat)) (tx : List Nat) : Prop := zSr h 1 m ∧ zCH h hs ∧ zCS h sn ∧ zCT2 h tx
/-- the reference's places stay -/
def zhi (h h' : zHp) : Prop := ∀ b, 76 ≤ b → ∀ j, h' b j = h b j
theorem zhi_rf (h : zHp) : zhi h h := fun _ _ _ => rfl
theorem zhi_tr {h h' h'' : zHp} (a : zhi h h') (b : zhi h' h'') : zhi h h'' := fun c hc j => by rw [b c hc, a c hc]
theorem zhi_up {h h' : zHp} (a : zhi h h') {k : Nat} (hk : k < 76) (j : Nat) (x : Int32) : zhi h (zup h' k j x) := fun c hc i => by rw [zS_zup_ne _ (by omega), a c hc]
def zCPost (h' : zHp) (om : Option (Nat → Nat)) (m : Nat → Nat) (hs : List (Nat → Nat)) (sn : Option (Nat → Nat)) (tx : List Nat) : Prop := match om with
  | none => zCV h' m hs sn tx
  | some m' => zCV h' m' (zph hs m) sn tx
/-- the class answers so -/
def zCAns (f : zHp → zRs) (r : Int32 × Option (Nat → Nat)) (h : zHp) (m : Nat → Nat) (hs : List (Nat → Nat)) (sn : Option (Nat → Nat)) (tx : List Nat) : Prop := ∃ h', f h = some (some r.1, h') ∧ zCPost h' r.2 m hs sn tx ∧ zhi h h'
theorem zCAns_no {f : zHp → zRs} {r : Int32} {h : zHp} {m : Nat → Nat} {hs : List (Nat → Nat)} {sn : Option (Nat → Nat)} {tx : List Nat} (hV : zCV h m hs sn tx) (hf : f h = some (some r, h)) : zCAns f (r, none) h m hs sn tx := ⟨h, hf, hV, zhi_rf h⟩
theorem zCH_fr {h h' : zHp} {hs : List (Nat → Nat)} (hH : zCH h hs) (hf : ∀ b j, 19 ≤ b → b < 57 → h' b j = h b j) : zCH h' hs := by
  obtain ⟨c1, c2, nx, c3, c4, c5⟩ := hH
  refine ⟨by rw [hf _ _ (by omega) (by omega), c1], c2, nx, c3, by rw [hf _ _ (by omega) (by omega), c4], fun i x hx => zSr_fr (c5 i x hx) (fun b j h1 h2 => ?_)⟩
  have : (nx + 4 - hs.length + i) % 4 < 4 := Nat.mod_lt _ (by omega)
  unfold zsl at h1 h2
  exact hf b j (by omega) (by omega)
/-- the state now put anew, all else as it was -/
theorem zCV_now {h h' : zHp} {m m' : Nat → Nat} {hs : List (Nat → Nat)} {sn : Option (Nat → Nat)} {tx : List Nat} (hV : zCV h m hs sn tx) (hS : zSr h' 1 m') (hf : ∀ b j, b = 0 ∨ (10 ≤ b ∧ b < 62) → h' b j = h b j) : zCV h' m' hs sn tx := by
  obtain ⟨s, H, ⟨a1, a2⟩, b1, b2, b3⟩ := hV
  exact ⟨hS, zCH_fr H (fun b j x y => hf b j (by omega)), ⟨by rw [hf _ _ (by omega), a1], fun x hx => zSr_fr (a2 x hx) (fun b j x y => hf b j (by omega))⟩, by rw [hf _ _ (by omega), b1], b2, fun i x hx => by rw [hf _ _ (by omega), b3 i x hx]⟩
theorem zn_remV {h : zHp} {m : Nat → Nat} {hs : List (Nat → Nat)} {sn : Option (Nat → Nat)} {tx : List Nat} (hV : zCV h m hs sn tx) (hB : zB m) : ∃ h', zM_65 [.inr 19, .inr 1] h = some (none, h') ∧ zCV h' m (zph hs m) sn tx ∧ zhi h h' ∧ ∀ b j, b < 19 → h' b j = h b j := by
  obtain ⟨s, H, ⟨a1, a2⟩, b1, b2, b3⟩ := hV
  obtain ⟨h', p1, p2, p3⟩ := zn_rem s hB H
  exact ⟨h', p1, ⟨zSr_fr s (fun b j x y => p3 b j (by omega)), p2, ⟨by rw [p3 _ _ (by omega), a1], fun x hx => zSr_fr (a2 x hx) (fun b j x y => p3 b j (by omega))⟩, by rw [p3 _ _ (by omega), b1], b2, fun i x hx => by rw [p3 _ _ (by omega), b3 i x hx]⟩, fun b hb j => p3 b j (by omega), fun b j hb => p3 b j (by omega)⟩
/-- a new colour in the state now -/
theorem zSr_col {h : zHp} {m : Nat → Nat} (hS : zSr h 1 m) {c v : Nat} (hc : c < 8) : zSr (zup h 2 c (nI v)) 1 (zu m (5 * c + 1) v) := by
  obtain ⟨⟨s1, s2, s3⟩, s4, s5, s6, s7⟩ := hS
  have hof : ∀ d w, w < 5 → zof (zu m (5 * c + 1) v) d w = if d = c ∧ w = 1 then v else zof m d w := fun d w hw => zof_u _ hc (by omega) hw
  have hev : zev8 (zu m (5 * c + 1) v) = zev8 m := zev_u _ (by omega)
  have ht : ∀ d, zt (zu m (5 * c + 1) v) d = zt m d := fun d => by
    unfold zt
    rw [hev, hof d 0 (by omega), if_neg (by omega)]
  have hst : ∀ w, zst (zu m (5 * c + 1) v) w = zst m w := fun w => by
    unfold zst
    rw [hev]
    congr 1
    funext d
    rw [ht, hof d 4 (by omega), if_neg (by omega)]
  have hod : ∀ k, zod (zu m (5 * c + 1) v) k = zod m k := fun k => zod_u _ (by omega) k
  have hz : ∀ b j, b ≠ 2 → zup h 2 c (nI v) b j = h b j := fun b j hb => zS_zup_ne _ hb _ _ _
  refine ⟨⟨by rw [hz _ _ (by omega), s1, hev], by rw [hz _ _ (by omega), s2, hst], by rw [hz _ _ (by omega), s3, hst]⟩, fun d hd htd => ?_, fun a ha => ?_, by rw [hz _ _ (by omega), s6, znb_u _ (by omega)], fun k hk => ?_⟩
  · rw [ht] at htd
    obtain ⟨x1, x2, x3⟩ := s4 d hd htd
    rw [hof d 1 (by omega), hof d 2 (by omega), hof d 3 (by omega), if_neg (show ¬ (d = c ∧ 2 = 1) by omega), if_neg (show ¬ (d = c ∧ 3 = 1) by omega)]
    refine ⟨?_, by rw [hz _ _ (by omega)]; exact x2, by rw [hz _ _ (by omega)]; exact x3⟩
    by_cases hdc : d = c
    · subst hdc
      rw [if_pos ⟨rfl, rfl⟩]
      exact zS_zup_same _ _ _ _
    · rw [if_neg (fun e => hdc e.1)]
      show zup h 2 c (nI v) 2 d = _
      rw [zS_zup_nk _ _ hdc]
      exact x1
  · have : zfbs (zu m (5 * c + 1) v) a = zfbs m a := by
      unfold zfbs
      congr 1
      funext b
      rw [zbd_u _ (by omega)]
    rw [this, hz _ _ (by omega)]
    exact s5 a ha
  · rw [znb_u _ (by omega)] at hk
    obtain ⟨x1, x2, x3⟩ := s7 k hk
    rw [hod, zln_u _ (by omega)]
    exact ⟨by rw [hz _ _ (by omega)]; exact x1, by rw [hz _ _ (by omega)]; exact x2, by rw [hz _ _ (by omega)]; exact x3⟩
theorem zn_paint {h : zHp} {m : Nat → Nat} {hs : List (Nat → Nat)} {sn : Option (Nat → Nat)} {tx : List Nat} (hV : zCV h m hs sn tx) (hI : zI m) (c v : Int32) : zCAns (zM_77 [.inr 0, .inl c, .inl v]) (zoPaint m c v) h m hs sn tx := by
  have hS := hV.1
  have hB := hI.1
  have he := zB_ev hB
  have e1 := ze_77 c v h
  rw [zn_there hS hB] at e1
  simp only [Option.bind_some, zpush] at e1
  rw [zb_77_8, zS_b0n] at e1
  have hI2 := zI_paint hI c v
  unfold zoPaint at hI2 ⊢
  cases h1 : zth m c with
  | false =>
    rw [h1, if_neg (by decide)] at e1
    exact zCAns_no hV e1
  | true =>
  rw [h1, if_pos rfl, zn_col] at e1
  simp only [Option.bind_some, zpush] at e1
  rw [zb_77_17, zS_b0n] at e1
  rw [h1, if_neg (by decide)] at hI2
  rw [if_neg (by decide)]
  cases h2 : zcol v with
  | false =>
    rw [h2, if_neg (by decide)] at e1
    exact zCAns_no hV e1
  | true =>
  obtain ⟨n, hn, hn1, rfl⟩ := zth_of h1
  obtain ⟨k, hk, rfl⟩ := zcol_of h2
  have tn := zt_of hn hn1
  have hn8 : n < 8 := by omega
  have b1 := zB_1 hB hn8
  rw [h2, if_pos rfl, zn_fixed hS hB hn8 tn] at e1
  simp only [Option.bind_some, zpush] at e1
  rw [zb_77_31, zS_b0, zS_ib _ (by omega), decide_eq_true hn8, if_pos (show true = true from rfl), zS_cl (by omega), show h 2 n = nI (zof m n 1) from (hS.2.1 n hn8 tn).1, zS_cne (by omega) (by omega)] at e1
  rw [h2, if_neg (by decide), zS_cl (show n < 2147483648 by omega), zS_cl (show k < 2147483648 by omega)] at hI2
  rw [if_neg (by decide), zS_cl (show n < 2147483648 by omega), zS_cl (show k < 2147483648 by omega)]
  by_cases h3 : zof m n 4 = 1
  · rw [decide_eq_true h3, if_neg (by decide)] at e1
    rw [if_pos h3]
    exact zCAns_no hV e1
  rw [decide_eq_false h3, if_pos (by decide)] at e1
  rw [if_neg h3] at hI2 ⊢
  by_cases h4 : zof m n 1 = k
  · rw [decide_eq_true h4, if_neg (by decide)] at e1
    rw [if_pos h4]
    exact zCAns_no hV e1
  rw [if_neg h4] at hI2 ⊢
  obtain ⟨h', p1, p2, p3, p4⟩ := zn_remV hV hB
  rw [decide_eq_false h4, if_pos (by decide), p1] at e1
  simp only [Option.bind_some, zpush] at e1
  have hS2 := zSr_col p2.1 (v := k) hn8
  have hI3 := hI2 _ rfl
  rw [zb_77_64, zS_ib _ (by omega), decide_eq_true hn8, if_pos rfl, zS_cl (by omega), zn_wrs hS2 hI3] at e1
  simp only [Option.bind_some, zpush] at e1
  rw [zb_77_81] at e1
  exact ⟨_, e1, zCV_now p2 hS2 (fun b j hb => zS_zup_ne _ (by omega) _ _ _), zhi_up p3 (by omega) _ _⟩
