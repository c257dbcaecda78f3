/-! A method's contract out of the small machine's run of its code. -/
def zargs (n : Nat) (as : List zV) : zLs := as.map some ++ List.replicate (n - as.length) none
/-- the method of 'n' locals, as a function -/
def zfun (mci : Nat → Nat) (code : List zE) (rb : Bool) (orc : zOr) (n : Nat) (as : List zV) (h : zHp) : zRs := if Nat.ble as.length n then zrun mci code rb (0, fun _ => 0) orc 0 (zargs n as) [] h else none
theorem zll_args {ad : Nat → Nat} : ∀ (as : List zV) (i k : Nat), zll ad i (as.map some ++ List.replicate k none) = lv_args i (as.map (ztr ad)) := by
  intro as
  induction as with
  | nil =>
    intro i k
    induction k generalizing i with
    | zero => rfl
    | succ k ih => exact ih (i + 1)
  | cons a t ih =>
    intro i k
    show (i, ztr ad a) :: zll ad (i + 1) (t.map some ++ List.replicate k none) = _
    rw [ih]
    have h1 : ¬ (ztr ad a).category = 2 := by rw [ztr_cat]; decide
    simp only [List.map_cons, lv_args, if_neg h1]
theorem zlg_len {ad : Nat → Nat} (as : List zV) : (lg_sl (as.map (ztr ad))).length = as.length := by
  induction as with
  | nil => rfl
  | cons a t ih =>
    have h1 : ¬ (ztr ad a).category = 2 := by rw [ztr_cat]; decide
    simp only [lg_sl, List.map_cons, List.flatMap_cons, if_neg h1, List.length_append, List.length_cons, List.length_nil] at ih ⊢
    omega
set_option maxHeartbeats 1000000 in
theorem zMet {l : Launch} {dC : Nat → ClassId} {dI : Nat → Nat → Nat} {ad : Nat → Nat} {cI cC cS : ClassId} {yM : Nat → MethodName} {bM : Nat → ByteArray} {lM : Nat → Nat} {tM : Nat → Option FieldType} {mci : Nat → Nat} {orc : zOr} {i : Nat} {rb : Bool} {code : List zE} (hap : zap ad)
    (hcall : ∀ j, j < i → zCT l dC dI ad cI cC cS yM bM lM tM j (orc j)) (hplain : plainName (yM i).cls = true) (ht : tM i = none ∨ (tM i = some .int ∧ rb = false) ∨ (tM i = some .boolean ∧ rb = true))
    (hok : ∀ q ∈ code, zOK yM bM lM tM mci i (yM i).cls false q) (hdec : ∀ q ∈ code, decode (bM i) q.1 = .ok (q.2.1, zlen q.2.2.1 q.2.1)) :
    zCT l dC dI ad cI cC cS yM bM lM tM i (zfun mci code rb orc (lM i)) := by
  intro as h r h' hrun
  unfold zfun at hrun
  split at hrun
  · rename_i hle
    have hle := Nat.le_of_ble_eq_true hle
    refine Met.ofW (cc := bM i) (maxL := lM i) (ret := tM i) hplain rfl ?_
    intro p e s m args below meth c s₁ B hml hv
    obtain ⟨rfl, hP, hK, hNE⟩ := hv
    have hx := B.exec
    have hb := B.bytes
    have hr := B.returns
    have hlocks := B.notSynchronized
    have hts0 := atoms_spec (ws := zwsM yM bM lM tM i) B.pre
    have hts : ∀ w ∈ zbw, w.before (as.map (ztr ad)).toArray s = true := fun w hw => hts0 w (List.mem_cons_of_mem _ hw)
    have hown : s.vm.findClass (yM i).cls = some m.cls := findClass_of_methodNamed B.named
    have hS : va_S (zAD ad) s.heap s.heap [] := va_S.rf
    have hl := lv_entry (as.map (ztr ad)) (n := lM i) (by rw [zlg_len]; exact hle)
    rw [lg_entry_eq]
    have hlr : zLR ad ((lg_sl (as.map (ztr ad)) ++ List.replicate (lM i - (lg_sl (as.map (ztr ad))).length) Slot.unset).toArray) (lM i) (zargs (lM i) as) := by
      refine ⟨by simp [zargs]; omega, ?_⟩
      unfold zargs
      rw [zll_args]
      exact hl
    have F : zFr p (zrm i) s m (as.map (ztr ad)).toArray c 0 0 ad cI cC cS dC dI (zAD ad) (lM i) (bM i) (yM i).cls i := ⟨hx, hb, hml, hown, hts, hK, hNE, hap, fun _ h => h, ⟨Nat.le_refl _, Nat.le_refl _⟩, ⟨Nat.le_refl _, Nat.le_refl _⟩⟩
    refine zsound (r0 := (r, h')) (H0 := s.heap) (Q := MQ below (zQ dC dI ad cI cC cS r h') (as.map (ztr ad)).toArray s 0 0 (zAD ad)) (sf := false) F hcall (fun q => by cases q) ?_ ?_ hok hdec 0 _ [] h hrun s.heap [] _ hP hS hlr
    · intro pc x H locs lj h2 he hsome hrb hdc hP2 hS2
      cases he
      have hnar : ∃ ty, tM i = some ty ∧ narrow ty (.int x) = .int x := by
        rcases ht with q | ⟨q, q2⟩ | ⟨q, q2⟩
        · rw [q] at hsome
          cases hsome
        · exact ⟨_, q, rfl⟩
        · refine ⟨_, q, ?_⟩
          rcases hrb q2 with rfl | rfl <;> decide
      obtain ⟨ty, q1, q2⟩ := hnar
      exact W.zret (ty := ty) hx hb (hr.trans q1) q2 (fun t ht hW => ⟨⟨x, (), rfl, rfl, by rw [ht]; exact hP2, va_K.moved hW.alike hK, zNE_warm hW hNE⟩, hS2.F ht⟩) hS2.2.2 hdc hlocks
    · intro pc H locs lj h2 he hn hdc hP2 hS2
      cases he
      exact W.vret hx hb (hr.trans hn) (fun t ht hW => ⟨⟨(), rfl, trivial, by rw [ht]; exact hP2, va_K.moved hW.alike hK, zNE_warm hW hNE⟩, hS2.F ht⟩) hS2.2.2 hdc hlocks
  · cases hrun
