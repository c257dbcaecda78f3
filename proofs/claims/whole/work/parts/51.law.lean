/-! the law from its entry -/
theorem zdl_0 : decode code 0 = .ok (.new 7, 3) := by decide +kernel
theorem zdl_3 : decode code 3 = .ok (.dup, 1) := by decide +kernel
theorem zdl_4 : decode code 4 = .ok (.invokespecial 9, 3) := by decide +kernel
theorem zdl_7 : decode code 7 = .ok (.astore_n 1, 1) := by decide +kernel
theorem zdl_8 : decode code 8 = .ok (.new 10, 3) := by decide +kernel
theorem zdl_11 : decode code 11 = .ok (.dup, 1) := by decide +kernel
theorem zdl_12 : decode code 12 = .ok (.invokespecial 12, 3) := by decide +kernel
theorem zdl_15 : decode code 15 = .ok (.astore_n 2, 1) := by decide +kernel
theorem zdl_16 : decode code 16 = .ok (.iconst 0, 1) := by decide +kernel
theorem zdl_17 : decode code 17 = .ok (.istore_n 3, 1) := by decide +kernel
set_option maxRecDepth 100000 in
theorem zbw_sub {w : Jvm.Cond} (h : w ∈ zbw) : w ∈ lw_tbl := (List.mem_filter.mp h).1
set_option maxRecDepth 100000 in
theorem zNL_in : ∀ n ∈ zNL, Jvm.Cond.methodLinkNest n.1 n.2.1 n.2.2.1 n.2.2.2 ∈ lw_tbl := by
  intro n hn
  simp only [zNL, List.mem_cons, List.not_mem_nil, or_false] at hn
  rcases hn with rfl | rfl | rfl
  · exact List.mem_of_getElem? (i := 263) rfl
  · exact List.mem_of_getElem? (i := 274) rfl
  · exact List.mem_of_getElem? (i := 434) rfl
set_option maxRecDepth 100000 in
theorem zNL2_in : ∀ n ∈ zNL2, Jvm.Cond.methodLinkNest n.1 n.2.1 n.2.2.1 n.2.2.2 ∈ lw_tbl := by
  intro n hn
  simp only [zNL2, List.mem_cons, List.not_mem_nil, or_false] at hn
  rcases hn with rfl | rfl | rfl
  · exact List.mem_of_getElem? (i := 68) rfl
  · exact List.mem_of_getElem? (i := 152) rfl
  · exact List.mem_of_getElem? (i := 183) rfl
set_option maxRecDepth 100000 in
theorem zKall {s : State} {args : Array Value} (hts : ∀ w ∈ lw_tbl, w.before args s = true) : ∃ (dC : Nat → ClassId) (dI : Nat → Nat → Nat) (cI cC cS : ClassId), va_K (dC, dI) zCl (zty cI cC cS) s := by
  have htz : ∀ w ∈ zbw, w.before args s = true := fun w h => hts w (zbw_sub h)
  obtain ⟨c0, i0, k0⟩ := u_known (C := zR0) (T := zT0) (N := 6) (n := 6) htz zlw0 (htz _ (zin 151 rfl rfl))
  obtain ⟨c1, i1, k1⟩ := u_known (C := zR1) (T := zT1) (N := 4) (n := 4) htz zlw1 (htz _ (zin 67 rfl rfl))
  obtain ⟨c2, i2, k2⟩ := u_known (C := zR2) (T := zT2) (N := 3) (n := 3) htz zlw2 (htz _ (zin 131 rfl rfl))
  obtain ⟨c3, i3, k3⟩ := u_known (C := zR3) (T := zT3) (N := 7) (n := 7) htz zlw3 (htz _ (zin 182 rfl rfl))
  obtain ⟨c4, i4, k4⟩ := u_known (C := zR4) (T := zT4) (N := 8) (n := 8) htz zlw4 (htz _ (zin 61 rfl rfl))
  obtain ⟨c5, i5, k5⟩ := u_known (C := zR5) (T := zT5) (N := 6) (n := 6) htz zlw5 (htz _ (zin 53 rfl rfl))
  obtain ⟨c6, i6, k6⟩ := u_known (C := zR6) (T := zT6) (N := 19) (n := 19) htz zlw6 (htz _ (zin 588 rfl rfl))
  obtain ⟨cI, kI, pI, f1, f2, f3⟩ := Cond.arrayClass_spec (htz _ zaI)
  obtain ⟨cC, kC, pC, g1, g2, g3⟩ := Cond.arrayClass_spec (htz _ zaC)
  have hov := hts (.arrayOver (.object "BorderPaints$State")) (List.mem_of_getElem? (i := 137) rfl)
  obtain ⟨cS, hS1, hS2⟩ : ∃ cS, ArrOfT s cS (.object "BorderPaints$State") ∧ va_RA s cS (.object "BorderPaints$State") := by
    obtain ⟨comp, c, k, h1, -, h3, h4, h5⟩ := Cond.arrayOver_spec hov
    exact ⟨c, fun n z => ⟨fun k h => (by cases h), k, h3, comp, h4⟩, k, comp, h3, h4, h1, h5⟩
  refine ⟨fun k => match k with | 0 => c0 | 1 => c1 | 2 => c2 | 3 => c3 | 4 => c4 | 5 => c5 | _ => c6, fun k => match k with | 0 => i0 | 1 => i1 | 2 => i2 | 3 => i3 | 4 => i4 | 5 => i5 | _ => i6, cI, cC, cS, ?_, ?_⟩
  · intro k q hq
    match k, hq with
    | 0, hq => cases hq; exact k0
    | 1, hq => cases hq; exact k1
    | 2, hq => cases hq; exact k2
    | 3, hq => cases hq; exact k3
    | 4, hq => cases hq; exact k4
    | 5, hq => cases hq; exact k5
    | 6, hq => cases hq; exact k6
    | k + 7, hq => simp [zCl] at hq
  · intro k q hq
    match k, hq with
    | 0, hq =>
      cases hq
      exact ⟨fun n z => ⟨fun k h => (by cases h), kI, f2, pI, f3⟩, f1⟩
    | 1, hq =>
      cases hq
      exact ⟨fun n z => ⟨fun k h => (by cases h), kC, g2, pC, g3⟩, g1⟩
    | 2, hq => cases hq; exact ⟨hS1, hS2⟩
    | k + 3, hq => simp [zty] at hq
set_option maxHeartbeats 4000000 in
set_option maxRecDepth 100000 in
/-- YOUR PART: from the entry, for every script of at most 2560 ints, the law comes to its end with true: the small machine's run of its loop is given -/
theorem whole_of (hrun : ∀ (L : Nat) (xs : Nat → Int32), L ≤ 2560 → ∃ h', zrun zmci zc_171 true (L, xs) zorL 18 [some (.inr 84), some (.inr 0), some (.inr 76), some (.inl (nI 0))] [] zh0 = some (some (nI 1), h'))
    {p : Program} {e : Env} {s : State} {m : MethodId} {below : List Frame} {meth : Method} {c : Code} (l : Launch) (hflags : l.flags = flags0) {b L : Nat} {xs : Nat → Int32} (hL : L ≤ 2560) (C0 : lw_At p s m meth c b L xs) : W p l e room_1 s m #[Value.ref b] below meth c s.heap [] 0 0 (lw_Z below #[Value.ref b] s) (entryFrame m ([Value.ref b] : List Value).toArray 4) := by
  obtain ⟨hx, hb, hr, hml, hown, hts, hX, hbl, hlocks, hgv⟩ := id C0
  have htz : ∀ w ∈ zbw, w.before #[Value.ref b] s = true := fun w h => hts w (zbw_sub h)
  have hA : ∀ q : Nat, s.heap.size ≤ q → (fun q : Nat => s.heap.size ≤ q) q := fun _ h => h
  have hbA : ¬ (fun q : Nat => s.heap.size ≤ q) b := Nat.not_le.mpr hbl
  obtain ⟨dC, dI, cI, cC, cS, hK⟩ := zKall hts
  have hNE : zNE s := fun n hn => va_Nw.of rfl (hts _ (zNL_in n hn))
  have hNE2 : zNE2 s := ⟨fun n hn => va_Nw.of rfl (hts _ (zNL2_in n hn)), va_AO.of (hts _ (List.mem_of_getElem? (i := 137) rfl))⟩
  have hS : va_S (fun q : Nat => s.heap.size ≤ q) s.heap s.heap [] := va_S.rf
  have hP : va_P (dC, dI) zCl [] s.heap := fun k q h => by simp at h
  have hD : va_D (fun q : Nat => s.heap.size ≤ q) [] := ⟨fun i j p q h => by simp at h, fun k q h => by simp at h⟩
  have hl := lv_entry ([.ref b]) (n := 4) (Nat.le_of_ble_eq_true rfl)
  rw [lg_entry_eq]
  generalize (lg_sl ([.ref b]) ++ List.replicate (4 - (lg_sl ([.ref b])).length) Slot.unset).toArray = ls at hl ⊢
  have hl : lv_has ls 4 [(0, .ref b)] := hl
  refine va_new (D := (dC, dI)) (ci := 5) (fs := [.null, .null, .int 0, .null, .null, .null]) (C := zR5) (T := zT5) (N := 6) hx hb htz zlw5 zY5 zY5_ok hown (htz _ (zin 52 rfl rfl)) (htz _ (zin 53 rfl rfl)) (htz _ (zin 42 rfl rfl)) hK hP hD hS hA rfl (fun j hj => by rcases (show j = 0 ∨ j = 1 ∨ j = 2 ∨ j = 3 ∨ j = 4 ∨ j = 5 by omega) with rfl | rfl | rfl | rfl | rfl | rfl <;> rfl) (Nat.le_of_ble_eq_true rfl) (Nat.le_of_ble_eq_true rfl) zdl_0 (fun q0 H hP hD hS => ?_)
  refine W.widen (k := 1) (n := 6) (by omega) (by omega) ?_
  refine lv_dup hx hb zdl_3 rfl ?_
  refine zk_lcall ⟨hx, hb, hml, hown, htz, hK, hNE2⟩ hA (zk_5 l dC dI cI cC cS) (zin 54 rfl rfl) (zin 42 rfl rfl) (zin 55 rfl rfl) (zin 56 rfl rfl) rfl ⟨by decide +kernel, by decide +kernel, by decide +kernel⟩ rfl rfl ⟨Nat.le_of_ble_eq_true rfl, Nat.le_of_ble_eq_true rfl⟩ ⟨Nat.le_of_ble_eq_true rfl, Nat.le_of_ble_eq_true rfl⟩ hl.1 (Nat.le_of_ble_eq_true rfl) hP hD hS zdl_4 (fun a H locs hP hD hS => ?_)
  refine W.widen (k := 76) (n := 1034) (by omega) (by omega) ?_
  refine lv_astore_n (lv' := [(1, .ref q0), (0, .ref b)]) hx hb zdl_7 rfl hl (by decide) rfl (fun ls hl => ?_)
  refine va_new (D := (dC, dI)) (ci := 6) (fs := [.null, .null, .int 0, .null, .int 0, .null, .null, .null, .int 0, .int 0, .int 0, .int 0, .int 0, .int 0, .null, .int 0, .int 0, .int 0, .int 0]) (C := zR6) (T := zT6) (N := 19) hx hb htz zlw6 zY6 zY6_ok hown (htz _ (zin 587 rfl rfl)) (htz _ (zin 588 rfl rfl)) (htz _ (zin 48 rfl rfl)) hK hP hD hS hA rfl (fun j hj => by rcases (show j = 0 ∨ j = 1 ∨ j = 2 ∨ j = 3 ∨ j = 4 ∨ j = 5 ∨ j = 6 ∨ j = 7 ∨ j = 8 ∨ j = 9 ∨ j = 10 ∨ j = 11 ∨ j = 12 ∨ j = 13 ∨ j = 14 ∨ j = 15 ∨ j = 16 ∨ j = 17 ∨ j = 18 by omega) with rfl | rfl | rfl | rfl | rfl | rfl | rfl | rfl | rfl | rfl | rfl | rfl | rfl | rfl | rfl | rfl | rfl | rfl | rfl <;> rfl) (Nat.le_of_ble_eq_true rfl) (Nat.le_of_ble_eq_true rfl) zdl_8 (fun q1 H hP hD hS => ?_)
  refine W.widen (k := 77) (n := 1053) (by omega) (by omega) ?_
  refine lv_dup hx hb zdl_11 rfl ?_
  refine zk_lcall ⟨hx, hb, hml, hown, htz, hK, hNE2⟩ hA (zk_6 l dC dI cI cC cS) (zin 589 rfl rfl) (zin 48 rfl rfl) (zin 590 rfl rfl) (zin 591 rfl rfl) rfl ⟨by decide +kernel, by decide +kernel, by decide +kernel⟩ rfl rfl ⟨Nat.le_of_ble_eq_true rfl, Nat.le_of_ble_eq_true rfl⟩ ⟨Nat.le_of_ble_eq_true rfl, Nat.le_of_ble_eq_true rfl⟩ hl.1 (Nat.le_of_ble_eq_true rfl) hP hD hS zdl_12 (fun a1 H locs hP hD hS => ?_)
  refine W.widen (k := 84) (n := 2037) (by omega) (by omega) ?_
  refine lv_astore_n (lv' := [(2, .ref q1), (1, .ref q0), (0, .ref b)]) hx hb zdl_15 rfl hl (by decide) rfl (fun ls hl => ?_)
  refine lv_iconst (v := nI 0) hx hb zdl_16 (by decide) ?_
  refine lv_istore_n (lv' := [(3, .int (nI 0)), (2, .ref q1), (1, .ref q0), (0, .ref b)]) hx hb zdl_17 rfl hl (by decide) rfl (fun ls hl => ?_)
  have hP : va_P (dC, dI) zCl (zw84 cI cC cS q0 a q1 a1) H := hP
  have hD : va_D (fun q : Nat => s.heap.size ≤ q) (zw84 cI cC cS q0 a q1 a1) := hD
  obtain ⟨hap, had⟩ := zad_ap (b := b) hD
  have hP84 := zw84_P (b := b) hP
  obtain ⟨h', hr1⟩ := hrun L xs hL
  have F : zFr p room_1 s m #[Value.ref b] c 84 2037 (zad q0 a q1 a1 b) cI cC cS dC dI (fun q : Nat => s.heap.size ≤ q) 4 code R_law 171 := ⟨hx, hb, hml, hown, htz, hK, hNE, hap, fun q ⟨k, hk, e⟩ => by rw [e]; exact had k hk, ⟨Nat.le_of_ble_eq_true rfl, Nat.le_of_ble_eq_true rfl⟩, ⟨Nat.le_of_ble_eq_true rfl, Nat.le_of_ble_eq_true rfl⟩⟩
  have hlr : zLR (zad q0 a q1 a1 b) ls 4 [some (.inr 84), some (.inr 0), some (.inr 76), some (.inl (nI 0))] := ⟨rfl, lv_sub hl [3, 2, 1, 0] rfl⟩
  refine zsound (r0 := (some (nI 1), h')) (rb := true) (scr := (L, xs)) (orc := zorL) (code := zc_171) (yM := zyM) (bM := zbM) (lM := zlM) (tM := ztM) (mci := zmci) (sf := true) F (fun j _ => zorL_ok hap j) (fun _ => ⟨hX, hbl, hbA⟩) ?_ ?_ zo_171 zd_171 18 _ [] zh0 hr1 H locs ls hP84 hS hlr
  · intro pc x H locs lj h he _ _ hdc _ hS2
    cases he
    refine va_forget (fun q hq => hS2.2.2 q hq) ?_
    refine W.widen (k := 600000) (n := 7302250) (Nat.le_of_ble_eq_true rfl) (Nat.le_of_ble_eq_true rfl) ?_
    exact lw_ret hx hb hr hlocks hdc
  · intro pc H locs lj h he
    cases he
