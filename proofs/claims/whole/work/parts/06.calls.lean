/-! Rows and calls. -/
section ZU
variable {p : Program} {l : Launch} {e : Env} {R : Room} {s : State} {m : MethodId} {args : Array Value} {below : List Frame} {meth : Method} {c : Code} {cells slots : Nat} {Q : State → Prop}
variable {ad : Nat → Nat} {cI cC cS : ClassId} {dC : Nat → ClassId} {dI : Nat → Nat → Nat} {A : Nat → Prop} {H0 : Heap} {nL : Nat} {cc : ByteArray} {own : String}
variable {pc pc' : Nat} {ls : zLs} {st : List zV} {h : zHp} {d : (Bool × Option Int32) ⊕ ((Bool × Nat × List zV × Nat × zLs × List zV) ⊕ (Bool × Option zN × Option zN))} {orc : zOr} {i : Nat} {r0 : Option Int32 × zHp}
theorem zs_iald (hx : p.tables.exec = Jvm.exec) (hb : c.code = cc) (hK : va_K (dC, dI) zCl (zty cI cC cS) s) {o : Nat} {x : Int32} {r : List zV} (hdc : decode cc pc = .ok (.iaload, 1))
    (hd : zif (Nat.beq (zSk o) 8 && zib x (zSn o)) (pc + 1, ls, .inl (h o x.toNatClampNeg) :: r, h) = some d) (hg : zG orc i r0 (zW p l e R s m args below meth c cells slots Q ad cI cC cS dC dI A H0 nL) h d) :
    zW p l e R s m args below meth c cells slots Q ad cI cC cS dC dI A H0 nL pc ls (.inl x :: .inr o :: r) h := by
  obtain ⟨hbb, hk⟩ := zG_if hd hg
  rw [Bool.and_eq_true] at hbb
  have hs := Nat.eq_of_beq_eq_true hbb.1
  have ho : o < 84 := zSk_lt hs (by omega)
  intro H locs lj hP hS hl
  exact va_iald (D := (dC, dI)) hx hb hK hP o 0 ((zWS_at ho).trans (by rw [zent_int hs])) rfl (zib_in hbb.2) hdc (hk H locs lj hP hS hl)
theorem zs_cald (hx : p.tables.exec = Jvm.exec) (hb : c.code = cc) (hK : va_K (dC, dI) zCl (zty cI cC cS) s) {o : Nat} {x : Int32} {r : List zV} (hdc : decode cc pc = .ok (.caload, 1))
    (hd : zif (Nat.beq (zSk o) 7 && zib x (zSn o)) (pc + 1, ls, .inl (h o x.toNatClampNeg) :: r, h) = some d) (hg : zG orc i r0 (zW p l e R s m args below meth c cells slots Q ad cI cC cS dC dI A H0 nL) h d) :
    zW p l e R s m args below meth c cells slots Q ad cI cC cS dC dI A H0 nL pc ls (.inl x :: .inr o :: r) h := by
  obtain ⟨hbb, hk⟩ := zG_if hd hg
  rw [Bool.and_eq_true] at hbb
  have hs := Nat.eq_of_beq_eq_true hbb.1
  have ho : o < 84 := zSk_lt hs (by omega)
  intro H locs lj hP hS hl
  exact va_cald (D := (dC, dI)) hx hb hK hP o 1 ((zWS_at ho).trans (by rw [zent_char hs])) rfl (zib_in hbb.2) hdc (hk H locs lj hP hS hl)
theorem zs_aald (hx : p.tables.exec = Jvm.exec) (hb : c.code = cc) (hK : va_K (dC, dI) zCl (zty cI cC cS) s) {o : Nat} {x : Int32} {r : List zV} (hdc : decode cc pc = .ok (.aaload, 1))
    (hd : zif (Nat.beq (zSk o) 9 && zib x (zSn o)) (pc + 1, ls, .inr (zHR o x.toNatClampNeg) :: r, h) = some d) (hg : zG orc i r0 (zW p l e R s m args below meth c cells slots Q ad cI cC cS dC dI A H0 nL) h d) :
    zW p l e R s m args below meth c cells slots Q ad cI cC cS dC dI A H0 nL pc ls (.inl x :: .inr o :: r) h := by
  obtain ⟨hbb, hk⟩ := zG_if hd hg
  rw [Bool.and_eq_true] at hbb
  have hs := Nat.eq_of_beq_eq_true hbb.1
  have ho : o < 84 := zSk_lt hs (by omega)
  intro H locs lj hP hS hl
  exact va_aldq (D := (dC, dI)) (tys := zty cI cC cS) (cA := cS) (C := "BorderPaints$State") (f := fun j => some (ad (zHR o j))) hx hb hK hP o 2 ((zWS_at ho).trans (by rw [zent_sts hs])) rfl (zib_in hbb.2) hdc (hk H locs lj hP hS hl)
theorem zs_iast (hx : p.tables.exec = Jvm.exec) (hb : c.code = cc) (hK : va_K (dC, dI) zCl (zty cI cC cS) s) (hap : zap ad) (hA : ∀ k, k < 84 → A (ad k)) {o : Nat} {x v : Int32} {r : List zV} (hdc : decode cc pc = .ok (.iastore, 1))
    (hd : zif (Nat.beq (zSk o) 8 && zib x (zSn o)) (pc + 1, ls, r, zup h o x.toNatClampNeg v) = some d) (hg : zG orc i r0 (zW p l e R s m args below meth c cells slots Q ad cI cC cS dC dI A H0 nL) h d) :
    zW p l e R s m args below meth c cells slots Q ad cI cC cS dC dI A H0 nL pc ls (.inl v :: .inl x :: .inr o :: r) h := by
  obtain ⟨hbb, hk⟩ := zG_if hd hg
  rw [Bool.and_eq_true] at hbb
  have hs := Nat.eq_of_beq_eq_true hbb.1
  have ho : o < 84 := zSk_lt hs (by omega)
  intro H locs lj hP hS hl
  refine va_iast (D := (dC, dI)) hx hb hK hP (zWS_D hap hA h) hS o 0 ((zWS_at ho).trans (by rw [zent_int hs])) rfl (zib_in hbb.2) hdc (fun H1 locs1 hP1 _ hS1 => ?_)
  rw [zWS_set (h' := zup h o x.toNatClampNeg v) (by rw [zent_int hs, zup_row]) (fun i hi => zup_ne hi)] at hP1
  exact hk H1 locs1 lj hP1 hS1 hl
theorem zs_cast (hx : p.tables.exec = Jvm.exec) (hb : c.code = cc) (hK : va_K (dC, dI) zCl (zty cI cC cS) s) (hap : zap ad) (hA : ∀ k, k < 84 → A (ad k)) {o : Nat} {x v : Int32} {r : List zV} (hdc : decode cc pc = .ok (.castore, 1))
    (hd : zif (Nat.beq (zSk o) 7 && zib x (zSn o)) (pc + 1, ls, r, zup h o x.toNatClampNeg (vp_nar .char v)) = some d) (hg : zG orc i r0 (zW p l e R s m args below meth c cells slots Q ad cI cC cS dC dI A H0 nL) h d) :
    zW p l e R s m args below meth c cells slots Q ad cI cC cS dC dI A H0 nL pc ls (.inl v :: .inl x :: .inr o :: r) h := by
  obtain ⟨hbb, hk⟩ := zG_if hd hg
  rw [Bool.and_eq_true] at hbb
  have hs := Nat.eq_of_beq_eq_true hbb.1
  have ho : o < 84 := zSk_lt hs (by omega)
  intro H locs lj hP hS hl
  refine va_cast (D := (dC, dI)) hx hb hK hP (zWS_D hap hA h) hS o 1 ((zWS_at ho).trans (by rw [zent_char hs])) rfl (zib_in hbb.2) hdc (fun H1 locs1 hP1 _ hS1 => ?_)
  rw [zWS_set (h' := zup h o x.toNatClampNeg (vp_nar .char v)) (by rw [zent_char hs, zup_row]) (fun i hi => zup_ne hi)] at hP1
  exact hk H1 locs1 lj hP1 hS1 hl
theorem zcp_ne {s d sp dp n : Nat} {b : Nat} (hb : b ≠ d) : zcp h s d sp dp n b = h b := by
  funext j
  simp [zcp, hb]
theorem zcp_row {s d sp dp n : Nat} : zcp h s d sp dp n d = va_cpy (h s) (h d) sp dp n := by
  funext j
  simp [zcp]
theorem zs_copy (hx : p.tables.exec = Jvm.exec) (hb : c.code = cc) (hml : c.maxLocals = nL) (hown : s.vm.findClass own = some m.cls) (hts : ∀ w ∈ zbw, w.before args s = true) (hK : va_K (dC, dI) zCl (zty cI cC cS) s) (hap : zap ad) (hA : ∀ k, k < 84 → A (ad k)) (hR : 1 ≤ R.frames ∧ 60 ≤ R.locals) {x sr ds : Nat} {sp dp n : Int32} {r : List zV} (hdc : decode cc pc = .ok (.invokestatic x, 3))
    (ok : Jvm.Cond.methodLink own x arraycopyName ∈ zbw ∧ Jvm.Cond.native arraycopyName ∈ zbw ∧ Jvm.Cond.static arraycopyName ∈ zbw ∧ Jvm.Cond.initialized "java/lang/System" ∈ zbw)
    (hd : zif (Nat.beq (zSk sr) 8 && Nat.beq (zSk ds) 8 && (!decide (sp < 0) && !decide (dp < 0) && !decide (n < 0)) && Nat.ble (sp.toNatClampNeg + n.toNatClampNeg) (zSn sr) && Nat.ble (dp.toNatClampNeg + n.toNatClampNeg) (zSn ds) && Nat.ble r.length 8) (pc + 3, ls, r, zcp h sr ds sp.toNatClampNeg dp.toNatClampNeg n.toNatClampNeg) = some d) (hg : zG orc i r0 (zW p l e R s m args below meth c cells slots Q ad cI cC cS dC dI A H0 nL) h d) :
    zW p l e R s m args below meth c cells slots Q ad cI cC cS dC dI A H0 nL pc ls (.inl n :: .inl dp :: .inr ds :: .inl sp :: .inr sr :: r) h := by
  obtain ⟨k1, k2, k3, k4⟩ := ok
  obtain ⟨hbb, hk⟩ := zG_if hd hg
  simp only [Bool.and_eq_true, Bool.not_eq_true', decide_eq_false_iff_not] at hbb
  obtain ⟨⟨⟨⟨⟨g1, g2⟩, ⟨g3, g4⟩, g5⟩, g6⟩, g7⟩, g8⟩ := hbb
  have hs1 := Nat.eq_of_beq_eq_true g1
  have hs2 := Nat.eq_of_beq_eq_true g2
  have ho1 : sr < 84 := zSk_lt hs1 (by omega)
  have ho2 : ds < 84 := zSk_lt hs2 (by omega)
  have h8 := Nat.le_of_ble_eq_true g8
  intro H locs lj hP hS hl
  refine va_copyi (D := (dC, dI)) hx hb (by rw [hml]; exact hl.2.1.symm) hown (hts _ k1) (hts _ k2) (hts _ k3) (hts _ k4) hK hP (zWS_D hap hA h) hS sr ds 0 0 ((zWS_at ho1).trans (by rw [zent_int hs1])) ((zWS_at ho2).trans (by rw [zent_int hs2])) rfl rfl rfl g3 g4 g5 (Nat.le_of_ble_eq_true g6) (Nat.le_of_ble_eq_true g7) (fun _ _ => rfl) hR.1 ?_ hdc (fun H1 locs1 hP1 _ hS1 => ?_)
  · rw [zcat_sum]
    have h9 : nativeFrameWords "java/lang/System" "arraycopy" 5 ≤ 7 := by decide +kernel
    omega
  · rw [zWS_set (h' := zcp h sr ds sp.toNatClampNeg dp.toNatClampNeg n.toNatClampNeg) (by rw [zent_int hs2, zcp_row]) (fun i hi => zcp_ne hi)] at hP1
    exact hk H1 locs1 lj hP1 hS1 hl
/-- behind a call -/
theorem zs_ret {y : MethodName} {r1 : Option Int32 × zHp} {rest : List zV} {stj : List Value} {args1 : Array Value} (hA2 : ∀ q, zAD ad q → A q)
    (hrun : ∀ (H : Heap) (locs : List Loc) (lj : Array Slot), va_P (dC, dI) zCl (zWS ad cI cC cS h) H → zLR ad lj nL ls → va_Run p l e R s m args below meth c H locs cells slots 0 0 (F0 m pc lj stj) (rest.map (ztr ad)) (zQ dC dI ad cI cC cS r1.1 r1.2 args1) (zAD ad))
    (hk : zW p l e R s m args below meth c cells slots Q ad cI cC cS dC dI A H0 nL (pc + 3) ls (zpush r1.1 rest) r1.2) :
    ∀ (H : Heap) (locs : List Loc) (lj : Array Slot), va_P (dC, dI) zCl (zWS ad cI cC cS h) H → va_S A H0 H locs → zLR ad lj nL ls → W p l e R s m args below meth c H locs cells slots Q (F0 m pc lj stj) := by
  intro H locs lj hP hS hl
  obtain ⟨v, h1⟩ := r1
  have hr := hrun H locs lj hP hl
  cases v with
  | none =>
    refine va_callv (a := args1) (A0 := A) (A1 := zAD ad) hr hS (fun q _ h => hA2 q h) hA2 (fun u t H1 locs1 ht hvm hw hB hz1 hk1 hS1 => ?_)
    obtain ⟨hP1, -, -⟩ := hB
    rw [ht] at hP1
    exact hk H1 locs1 lj hP1 hS1 hl
  | some z =>
    refine va_calli (a := args1) (A0 := A) (A1 := zAD ad) hr hS (fun q _ h => hA2 q h) hA2 (fun r u t H1 locs1 ht hvm hw hB hz1 hk1 hS1 => ?_)
    obtain ⟨hP1, -, -⟩ := hB
    rw [ht] at hP1
    subst hw
    exact hk H1 locs1 lj hP1 hS1 hl
end ZU
