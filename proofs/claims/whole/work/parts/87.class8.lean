/-! allow of the class. -/
theorem zSr_fld {h : zHp} {m : Nat → Nat} (hS : zSr h 1 m) {c w v : Nat} (hc : c < 8) (hw : 1 ≤ w) (hw3 : w ≤ 3) : zSr (zup h (w + 1) c (nI v)) 1 (zu m (5 * c + w) v) := by
  obtain ⟨⟨s1, s2, s3⟩, s4, s5, s6, s7⟩ := hS
  have hof : ∀ d x, x < 5 → zof (zu m (5 * c + w) v) d x = if d = c ∧ x = w then v else zof m d x := fun d x hx => zof_u _ hc (by omega) hx
  have hev : zev8 (zu m (5 * c + w) v) = zev8 m := zev_u _ (by omega)
  have ht : ∀ d, zt (zu m (5 * c + w) v) d = zt m d := fun d => by
    unfold zt
    rw [hev, hof d 0 (by omega), if_neg (by omega)]
  have hst : ∀ x, zst (zu m (5 * c + w) v) x = zst m x := fun x => by
    unfold zst
    rw [hev]
    congr 1
    funext d
    rw [ht, hof d 4 (by omega), if_neg (by omega)]
  have hod : ∀ k, zod (zu m (5 * c + w) v) k = zod m k := fun k => zod_u _ (by omega) k
  have hz : ∀ b j, b ≠ w + 1 → zup h (w + 1) c (nI v) b j = h b j := fun b j hb => zS_zup_ne _ hb _ _ _
  refine ⟨⟨by rw [hz _ _ (by omega), s1, hev], by rw [hz _ _ (by omega), s2, hst], by rw [hz _ _ (by omega), s3, hst]⟩, fun d hd htd => ?_, fun a ha => ?_, by rw [hz _ _ (by omega), s6, znb_u _ (by omega)], fun k hk => ?_⟩
  · rw [ht] at htd
    obtain ⟨x1, x2, x3⟩ := s4 d hd htd
    have key : ∀ x, 1 ≤ x → x ≤ 3 → h (x + 1) d = nI (zof m d x) → zup h (w + 1) c (nI v) (x + 1) d = nI (zof (zu m (5 * c + w) v) d x) := by
      intro x hx1 hx3 hx
      rw [hof d x (by omega)]
      by_cases hq : d = c ∧ x = w
      · rw [if_pos hq, hq.1, hq.2]
        exact zS_zup_same _ _ _ _
      · rw [if_neg hq]
        unfold zup
        rw [if_neg (by omega)]
        exact hx
    have y1 := key 1 (by omega) (by omega) x1
    have y2 := key 2 (by omega) (by omega) x2
    have y3 := key 3 (by omega) (by omega) x3
    exact ⟨y1, y2, y3⟩
  · have : zfbs (zu m (5 * c + w) v) a = zfbs m a := by
      unfold zfbs
      congr 1
      funext b
      rw [zbd_u _ (by omega)]
    rw [this, hz _ _ (by omega)]
    exact s5 a ha
  · rw [znb_u _ (by omega)] at hk
    obtain ⟨x1, x2, x3⟩ := s7 k hk
    rw [hod, zln_u _ (by omega)]
    exact ⟨by rw [hz _ _ (by omega)]; exact x1, by rw [hz _ _ (by omega)]; exact x2, by rw [hz _ _ (by omega)]; exact x3⟩
