/-! Calls, every step, the whole run, and a method's contract out of its run. -/
section ZX
variable {p : Program} {l : Launch} {e : Env} {R : Room} {s : State} {m : MethodId} {args : Array Value} {below : List Frame} {meth : Method} {c : Code} {cells slots : Nat} {Q : State → Prop}
variable {ad : Nat → Nat} {cI cC cS : ClassId} {dC : Nat → ClassId} {dI : Nat → Nat → Nat} {A : Nat → Prop} {H0 : Heap} {nL : Nat} {cc : ByteArray} {own : String}
variable {yM : Nat → MethodName} {bM : Nat → ByteArray} {lM : Nat → Nat} {tM : Nat → Option FieldType} {mci : Nat → Nat}
variable {pc pc' : Nat} {ls : zLs} {st : List zV} {h : zHp} {d : (Bool × Option Int32) ⊕ ((Bool × Nat × List zV × Nat × zLs × List zV) ⊕ (Bool × Option zN × Option zN))} {orc : zOr} {i : Nat} {r0 : Option Int32 × zHp}
theorem zroom {a ml : Nat} (hai : a < i) (hml : ml ≤ 40) (hR : i + 1 ≤ R.frames ∧ 60 * (i + 1) ≤ R.locals) : (zrm a).frames + 1 ≤ R.frames ∧ 8 + (ml + 11) + (zrm a).locals ≤ R.locals := by
  simp only [zrm]
  omega
theorem zs_callV (hx : p.tables.exec = Jvm.exec) (hb : c.code = cc) (hml : c.maxLocals = nL) (hown : s.vm.findClass own = some m.cls) (hts : ∀ w ∈ zbw, w.before args s = true) (hK : va_K (dC, dI) zCl (zty cI cC cS) s) (hNE : zNE s) (hA2 : ∀ q, zAD ad q → A q) (hR : i + 1 ≤ R.frames ∧ 60 * (i + 1) ≤ R.locals) (hRc : cells ≤ R.cells ∧ slots ≤ R.slots)
    (hcall : ∀ j, j < i → zCT l dC dI ad cI cC cS yM bM lM tM j (orc j)) {x a b : Nat} (hdc : decode cc pc = .ok (.invokevirtual x, 3))
    (ok : a < i ∧ mci a < 7 ∧ (yM a).cls = zRR (mci a) ∧ zcl (yM a) (bM a) (lM a) (tM a) b ∧ Jvm.Cond.methodLink own x (yM a) ∈ zbw ∧ Jvm.Cond.instanceMethod (yM a) ∈ zbw ∧ Jvm.Cond.selects (yM a).cls (yM a) (yM a) ∈ zbw)
    (hd : zcv (st.take b) a b (pc + 3) mci ls (st.drop b) = some d) (hg : zG orc i r0 (zW p l e R s m args below meth c cells slots Q ad cI cC cS dC dI A H0 nL) h d) :
    zW p l e R s m args below meth c cells slots Q ad cI cC cS dC dI A H0 nL pc ls st h := by
  obtain ⟨k1, k2, k3, ⟨k4, k5, k6, k7⟩, k8, k9, k10⟩ := ok
  have hst := List.take_append_drop b st
  unfold zcv at hd
  split at hd
  · rename_i o rest heq
    cases hd
    obtain ⟨hbb, ⟨v, h1⟩, ho, hk⟩ := hg
    simp only [Bool.and_eq_true] at hbb
    have g1 := Nat.eq_of_beq_eq_true hbb.1.1
    have g2 := Nat.eq_of_beq_eq_true hbb.1.2
    have g3 := Nat.le_of_ble_eq_true hbb.2
    have ho84 : o < 84 := zSk_lt g1 (by omega)
    rw [heq] at hst
    have hG : GoodIn zbw (wsV own x (yM a).cls (yM a) (zwsM yM bM lM tM a)) := fun w hw => by
      have h2 : w ∈ zbw := by
        simp only [wsV, zwsM, List.cons_append, List.nil_append, List.mem_cons] at hw
        rcases hw with rfl | rfl | rfl | rfl | rfl | hw
        · exact k8
        · exact k9
        · exact k10
        · exact k4
        · exact k5
        · exact hw
      exact ⟨h2, zgood h2⟩
    refine zs_ret (y := yM a) (r1 := (v, h1)) (rest := rest) (args1 := (Value.ref (ad o) :: ((st.take b).reverse.map (ztr ad))).toArray) hA2 (fun H locs lj hP hl => ?_) hk
    refine va_runV (C := (yM a).cls) ⟨hx, hb, hml, hown, hts⟩ (hcall a k1 _ _ _ _ ho) (cwV b hts hG rfl rfl rfl ⟨rfl, k6⟩ (zroom k1 k7 hR)) ⟨zblind, ?_, fun U hU hW => ⟨rfl, by rw [hU]; exact hP, va_K.moved hW.alike hK, zNE_warm hW hNE⟩⟩ rfl (by simp only [List.length_map, List.length_reverse]; exact g2) hl.2.1 ?_ (lv_room (by rw [zcat_sum]; exact g3)) hdc hRc
    · rw [k3]
      exact va_recv hK hP (zCl_at k2) ((zWS_at ho84).trans (by rw [zent_obj g1 k2]))
    · have h5 := congrArg (List.map (ztr ad)) hst
      rw [List.map_append] at h5
      show st.map (ztr ad) = _
      rw [← h5, ← List.map_reverse, List.reverse_reverse]
      rfl
  · cases hd
theorem zs_callS (hx : p.tables.exec = Jvm.exec) (hb : c.code = cc) (hml : c.maxLocals = nL) (hown : s.vm.findClass own = some m.cls) (hts : ∀ w ∈ zbw, w.before args s = true) (hK : va_K (dC, dI) zCl (zty cI cC cS) s) (hNE : zNE s) (hA2 : ∀ q, zAD ad q → A q) (hR : i + 1 ≤ R.frames ∧ 60 * (i + 1) ≤ R.locals) (hRc : cells ≤ R.cells ∧ slots ≤ R.slots)
    (hcall : ∀ j, j < i → zCT l dC dI ad cI cC cS yM bM lM tM j (orc j)) {x a b : Nat} (hdc : decode cc pc = .ok (.invokestatic x, 3))
    (k1 : a < i) (hcl : zcl (yM a) (bM a) (lM a) (tM a) b) (k8 : Jvm.Cond.static (yM a) ∈ zbw) (k9 : Jvm.Cond.methodLink own x (yM a) ∈ zbw ∨ ∃ h, (own, x, yM a, h) ∈ zNL)
    (hd : some (.inr (.inl (Nat.beq (st.take b).length b && Nat.ble (st.drop b).length 8, a, (st.take b).reverse, pc + 3, ls, st.drop b))) = some d) (hg : zG orc i r0 (zW p l e R s m args below meth c cells slots Q ad cI cC cS dC dI A H0 nL) h d) :
    zW p l e R s m args below meth c cells slots Q ad cI cC cS dC dI A H0 nL pc ls st h := by
  obtain ⟨k4, k5, k6, k7⟩ := hcl
  have hst := List.take_append_drop b st
  cases hd
  obtain ⟨hbb, ⟨v, h1⟩, ho, hk⟩ := hg
  simp only [Bool.and_eq_true] at hbb
  have g2 := Nat.eq_of_beq_eq_true hbb.1
  have g3 := Nat.le_of_ble_eq_true hbb.2
  have hGm : GoodIn zbw (zwsM yM bM lM tM a) := fun w hw => by
    have h2 : w ∈ zbw := by
      rcases List.mem_cons.mp hw with rfl | hw
      · exact k5
      · exact hw
    exact ⟨h2, zgood h2⟩
  refine zs_ret (y := yM a) (r1 := (v, h1)) (rest := st.drop b) (args1 := ((st.take b).reverse.map (ztr ad)).toArray) hA2 (fun H locs lj hP hl => ?_) hk
  have hstk : st.map (ztr ad) = ((st.take b).reverse.map (ztr ad)).reverse ++ (st.drop b).map (ztr ad) := by
    rw [← List.map_reverse, List.reverse_reverse, ← List.map_append, hst]
  rcases k9 with k9 | ⟨hs, k9⟩
  · have hG : GoodIn zbw (va_wsS own x (yM a) (zwsM yM bM lM tM a)) := fun w hw => by
      simp only [va_wsS, List.cons_append, List.nil_append, List.mem_cons] at hw
      rcases hw with rfl | rfl | rfl | hw
      · exact ⟨k9, zgood k9⟩
      · exact ⟨k8, zgood k8⟩
      · exact ⟨k4, zgood k4⟩
      · exact hGm w hw
    exact va_runS ⟨hx, hb, hml, hown, hts⟩ (hcall a k1 _ _ _ _ ho) (va_cwS b hts hG rfl rfl rfl k6 (zroom k1 k7 hR)) ⟨zblind, fun U hU hW => ⟨rfl, by rw [hU]; exact hP, va_K.moved hW.alike hK, zNE_warm hW hNE⟩⟩ rfl (by simp only [List.length_map, List.length_reverse]; exact g2) hl.2.1 hstk (lv_room (by rw [zcat_sum]; exact g3)) hdc hRc
  · exact va_runSN ⟨hx, hb, hml, hown, hts⟩ (hcall a k1 _ _ _ _ ho) ⟨va_cnB b hts hGm rfl rfl rfl (hNE _ k9) (hts _ k4) k6 (zroom k1 k7 hR), hts _ k8, trivial⟩ ⟨zblind, fun U hU hW => ⟨rfl, by rw [hU]; exact hP, va_K.moved hW.alike hK, zNE_warm hW hNE⟩⟩ rfl (by simp only [List.length_map, List.length_reverse]; exact g2) hl.2.1 hstk (lv_room (by rw [zcat_sum]; exact g3)) hdc hRc
end ZX
