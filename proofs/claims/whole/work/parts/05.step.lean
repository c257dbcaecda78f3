/-! One step of the small machine is one step (or one call) of the machine. -/
section ZT
variable {p : Program} {l : Launch} {e : Env} {R : Room} {s : State} {m : MethodId} {args : Array Value} {below : List Frame} {meth : Method} {c : Code} {cells slots : Nat} {Q : State → Prop}
variable {ad : Nat → Nat} {cI cC cS : ClassId} {dC : Nat → ClassId} {dI : Nat → Nat → Nat} {A : Nat → Prop} {H0 : Heap} {nL : Nat} {cc : ByteArray} {own : String}
variable {pc pc' : Nat} {ls : zLs} {st : List zV} {h : zHp} {d : (Bool × Option Int32) ⊕ ((Bool × Nat × List zV × Nat × zLs × List zV) ⊕ (Bool × Option zN × Option zN))} {orc : zOr} {i : Nat} {r0 : Option Int32 × zHp}
theorem zs_ldI {k : Nat} (hd : zldI ls k pc' st h = some d) (hg : zG orc i r0 (zW p l e R s m args below meth c cells slots Q ad cI cC cS dC dI A H0 nL) h d)
    (row : ∀ (H : Heap) (locs : List Loc) (lj : Array Slot) (x : Int32) (rest : List Value), lj[k]? = some (.val (.int x)) → W p l e R s m args below meth c H locs cells slots Q (F0 m pc' lj (.int x :: rest)) → W p l e R s m args below meth c H locs cells slots Q (F0 m pc lj rest)) :
    zW p l e R s m args below meth c cells slots Q ad cI cC cS dC dI A H0 nL pc ls st h := by
  unfold zldI at hd
  split at hd
  · rename_i x hx
    have hk := zG_go hd hg
    intro H locs lj hP hS hl
    exact row H locs lj x _ (zLR_get hl hx) (hk H locs lj hP hS hl)
  · cases hd
theorem zs_ldA {k : Nat} (hd : zldA ls k pc' st h = some d) (hg : zG orc i r0 (zW p l e R s m args below meth c cells slots Q ad cI cC cS dC dI A H0 nL) h d)
    (row : ∀ (H : Heap) (locs : List Loc) (lj : Array Slot) (x : Nat) (rest : List Value), lj[k]? = some (.val (.ref x)) → W p l e R s m args below meth c H locs cells slots Q (F0 m pc' lj (.ref x :: rest)) → W p l e R s m args below meth c H locs cells slots Q (F0 m pc lj rest)) :
    zW p l e R s m args below meth c cells slots Q ad cI cC cS dC dI A H0 nL pc ls st h := by
  unfold zldA at hd
  split at hd
  · rename_i x hx
    have hk := zG_go hd hg
    intro H locs lj hP hS hl
    exact row H locs lj (ad x) _ (zLR_get hl hx) (hk H locs lj hP hS hl)
  · cases hd
theorem zs_stI {k : Nat} (hd : zstI ls k pc' st h = some d) (hg : zG orc i r0 (zW p l e R s m args below meth c cells slots Q ad cI cC cS dC dI A H0 nL) h d)
    (row : ∀ (H : Heap) (locs : List Loc) (lj : Array Slot) (x : Int32) (rest : List Value) (lv : List (Nat × Value)), lv_has lj nL lv → k < nL → (∀ lj' : Array Slot, lv_has lj' nL ((k, .int x) :: lv.filter (fun q => !(q.1 == k) && !(q.1 + 1 == k && q.2.category == 2))) → W p l e R s m args below meth c H locs cells slots Q (F0 m pc' lj' rest)) → W p l e R s m args below meth c H locs cells slots Q (F0 m pc lj (.int x :: rest))) :
    zW p l e R s m args below meth c cells slots Q ad cI cC cS dC dI A H0 nL pc ls st h := by
  unfold zstI at hd
  split at hd
  · rename_i x r
    obtain ⟨hb, hk⟩ := zG_if hd hg
    have hlt : k < ls.length := Nat.blt_eq.mp hb
    intro H locs lj hP hS hl
    have hlt2 : k < nL := by rw [← hl.1]; exact hlt
    exact row H locs lj x _ _ hl.2 hlt2 (fun lj' hl' => hk H locs lj' hP hS (zLR_set (lj := lj) (v := .inl x) hl.1 hlt2 hl'))
  · cases hd
theorem zs_op {f : Int32 → Int32 → Int32} (hd : zop f pc' ls st h = some d) (hg : zG orc i r0 (zW p l e R s m args below meth c cells slots Q ad cI cC cS dC dI A H0 nL) h d)
    (row : ∀ (H : Heap) (locs : List Loc) (lj : Array Slot) (x y : Int32) (rest : List Value), W p l e R s m args below meth c H locs cells slots Q (F0 m pc' lj (.int (f x y) :: rest)) → W p l e R s m args below meth c H locs cells slots Q (F0 m pc lj (.int y :: .int x :: rest))) :
    zW p l e R s m args below meth c cells slots Q ad cI cC cS dC dI A H0 nL pc ls st h := by
  unfold zop at hd
  split at hd
  · have hk := zG_go hd hg
    intro H locs lj hP hS hl
    exact row H locs lj _ _ _ (hk H locs lj hP hS hl)
  · cases hd
theorem zs_dv {f : Int32 → Int32 → Int32} (hd : zdv znz f pc' ls st h = some d) (hg : zG orc i r0 (zW p l e R s m args below meth c cells slots Q ad cI cC cS dC dI A H0 nL) h d)
    (row : ∀ (H : Heap) (locs : List Loc) (lj : Array Slot) (x y : Int32) (rest : List Value), ¬ y = 0 → W p l e R s m args below meth c H locs cells slots Q (F0 m pc' lj (.int (f x y) :: rest)) → W p l e R s m args below meth c H locs cells slots Q (F0 m pc lj (.int y :: .int x :: rest))) :
    zW p l e R s m args below meth c cells slots Q ad cI cC cS dC dI A H0 nL pc ls st h := by
  unfold zdv at hd
  split at hd
  · obtain ⟨hb, hk⟩ := zG_if hd hg
    intro H locs lj hP hS hl
    exact row H locs lj _ _ _ (by simpa [znz, nI_0] using hb) (hk H locs lj hP hS hl)
  · cases hd
theorem zs_br {t pf : Nat} {st' : List zV} {b : Bool} {P : Prop} (hd : zbr b (t, ls, st', h) (pf, ls, st', h) = some d) (hg : zG orc i r0 (zW p l e R s m args below meth c cells slots Q ad cI cC cS dC dI A H0 nL) h d) (hb : b = true ↔ P)
    {pre : List zV} (row : ∀ (H : Heap) (locs : List Loc) (lj : Array Slot) (rest : List Value), (P → W p l e R s m args below meth c H locs cells slots Q (F0 m t lj rest)) → (¬ P → W p l e R s m args below meth c H locs cells slots Q (F0 m pf lj rest)) → W p l e R s m args below meth c H locs cells slots Q (F0 m pc lj (pre.map (ztr ad) ++ rest))) :
    zW p l e R s m args below meth c cells slots Q ad cI cC cS dC dI A H0 nL pc ls (pre ++ st') h := by
  obtain ⟨k1, k2⟩ := zG_br hd hg
  intro H locs lj hP hS hl
  rw [List.map_append]
  refine row H locs lj _ (fun q => k1 (hb.mpr q) H locs lj hP hS hl) (fun q => k2 ?_ H locs lj hP hS hl)
  cases hbb : b with
  | true => exact absurd (hb.mp hbb) q
  | false => rfl
theorem zs_icmp (hx : p.tables.exec = Jvm.exec) (hb : c.code = cc) {cd : ClassFile.Cond} {off : Int} {t : Nat} {x y : Int32} {r : List zV} (hdc : decode cc pc = .ok (.if_icmp cd off, 3)) (ht : (pc : Int) + off = (t : Int))
    (hd : zbr (zci cd x y) (t, ls, r, h) (pc + 3, ls, r, h) = some d) (hg : zG orc i r0 (zW p l e R s m args below meth c cells slots Q ad cI cC cS dC dI A H0 nL) h d) :
    zW p l e R s m args below meth c cells slots Q ad cI cC cS dC dI A H0 nL pc ls (.inl y :: .inl x :: r) h := by
  cases cd with
  | eq => exact zs_br (pre := [.inl y, .inl x]) hd hg (P := x = y) (by simp [zci]) (fun H locs lj rest k1 k2 => lv_icmp_eq hx hb hdc ht k1 k2)
  | ne => exact zs_br (pre := [.inl y, .inl x]) hd hg (P := ¬ x = y) (by simp [zci]) (fun H locs lj rest k1 k2 => lv_icmp_ne hx hb hdc ht k1 (fun q => k2 (fun q2 => q2 q)))
  | lt => exact zs_br (pre := [.inl y, .inl x]) hd hg (P := x < y) (by simp [zci]) (fun H locs lj rest k1 k2 => lv_icmp_lt hx hb hdc ht k1 k2)
  | ge => exact zs_br (pre := [.inl y, .inl x]) hd hg (P := y ≤ x) (by simp [zci]) (fun H locs lj rest k1 k2 => lv_icmp_ge hx hb hdc ht k1 k2)
  | gt => exact zs_br (pre := [.inl y, .inl x]) hd hg (P := y < x) (by simp [zci]) (fun H locs lj rest k1 k2 => lv_icmp_gt hx hb hdc ht k1 k2)
  | le => exact zs_br (pre := [.inl y, .inl x]) hd hg (P := x ≤ y) (by simp [zci]) (fun H locs lj rest k1 k2 => lv_icmp_le hx hb hdc ht k1 k2)
theorem zs_if (hx : p.tables.exec = Jvm.exec) (hb : c.code = cc) {cd : ClassFile.Cond} {off : Int} {t : Nat} {x : Int32} {r : List zV} (hdc : decode cc pc = .ok (.ifCond cd off, 3)) (ht : (pc : Int) + off = (t : Int))
    (hd : zbr (zci cd x (nI 0)) (t, ls, r, h) (pc + 3, ls, r, h) = some d) (hg : zG orc i r0 (zW p l e R s m args below meth c cells slots Q ad cI cC cS dC dI A H0 nL) h d) :
    zW p l e R s m args below meth c cells slots Q ad cI cC cS dC dI A H0 nL pc ls (.inl x :: r) h := by
  cases cd with
  | eq => exact zs_br (pre := [.inl x]) hd hg (P := x = 0) (by simp [zci, nI_0]) (fun H locs lj rest k1 k2 => lv_if_eq hx hb hdc ht k1 k2)
  | ne => exact zs_br (pre := [.inl x]) hd hg (P := ¬ x = 0) (by simp [zci, nI_0]) (fun H locs lj rest k1 k2 => lv_if_ne hx hb hdc ht k1 (fun q => k2 (fun q2 => q2 q)))
  | lt => exact zs_br (pre := [.inl x]) hd hg (P := x < 0) (by simp [zci, nI_0]) (fun H locs lj rest k1 k2 => lv_if_lt hx hb hdc ht k1 k2)
  | ge => exact zs_br (pre := [.inl x]) hd hg (P := 0 ≤ x) (by simp [zci, nI_0]) (fun H locs lj rest k1 k2 => lv_if_ge hx hb hdc ht k1 k2)
  | gt => exact zs_br (pre := [.inl x]) hd hg (P := 0 < x) (by simp [zci, nI_0]) (fun H locs lj rest k1 k2 => lv_if_gt hx hb hdc ht k1 k2)
  | le => exact zs_br (pre := [.inl x]) hd hg (P := x ≤ 0) (by simp [zci, nI_0]) (fun H locs lj rest k1 k2 => lv_if_le hx hb hdc ht k1 k2)
theorem zs_get (hx : p.tables.exec = Jvm.exec) (hb : c.code = cc) (hown : s.vm.findClass own = some m.cls) (hts : ∀ w ∈ zbw, w.before args s = true) (hK : va_K (dC, dI) zCl (zty cI cC cS) s) {x a b o : Nat} {r : List zV} (hdc : decode cc pc = .ok (.getfield x, 3))
    (ok : a < 7 ∧ b < zNF a ∧ Jvm.Cond.fieldLink own x (zTT a b).1 (zTT a b).2.1 (zTT a b).2.2.1 ∈ zbw)
    (hd : zif (Nat.beq (zSk o) a) (pc + 3, ls, (if Nat.beq (zFT a b) 2 then .inr (zHR o b) else .inl (h o b)) :: r, h) = some d) (hg : zG orc i r0 (zW p l e R s m args below meth c cells slots Q ad cI cC cS dC dI A H0 nL) h d) :
    zW p l e R s m args below meth c cells slots Q ad cI cC cS dC dI A H0 nL pc ls (.inr o :: r) h := by
  obtain ⟨h1, h2, h3⟩ := ok
  obtain ⟨hbb, hk⟩ := zG_if hd hg
  have hs := Nat.eq_of_beq_eq_true hbb
  have ho : o < 84 := zSk_lt hs (by omega)
  intro H locs lj hP hS hl
  exact va_get (D := (dC, dI)) (ci := a) (C := zRR a) (T := zTT a) (N := zNF a) hx hb hts (zlw h1) hown hK hP o ((zWS_at ho).trans (by rw [zent_obj hs h1])) (zCl_at h1) b h2 (hts _ h3) (fun _ h9 => h9) (zfs_at h2) hdc (hk H locs lj hP hS hl)
theorem zs_put (hx : p.tables.exec = Jvm.exec) (hb : c.code = cc) (hown : s.vm.findClass own = some m.cls) (hts : ∀ w ∈ zbw, w.before args s = true) (hK : va_K (dC, dI) zCl (zty cI cC cS) s) (hap : zap ad) (hA : ∀ k, k < 84 → A (ad k)) {x a b o : Nat} {v : Int32} {r : List zV} (hdc : decode cc pc = .ok (.putfield x, 3))
    (ok : a < 7 ∧ b < zNF a ∧ Jvm.Cond.fieldLink own x (zTT a b).1 (zTT a b).2.1 (zTT a b).2.2.1 ∈ zbw ∧ (zTT a b).2.2.2 = false)
    (hd : zif (Nat.beq (zSk o) a && (Nat.beq (zFT a b) 0 || zbo v)) (pc + 3, ls, r, zup h o b v) = some d) (hg : zG orc i r0 (zW p l e R s m args below meth c cells slots Q ad cI cC cS dC dI A H0 nL) h d) :
    zW p l e R s m args below meth c cells slots Q ad cI cC cS dC dI A H0 nL pc ls (.inl v :: .inr o :: r) h := by
  obtain ⟨h1, h2, h3, h4⟩ := ok
  obtain ⟨hbb, hk⟩ := zG_if hd hg
  rw [Bool.and_eq_true] at hbb
  have hs := Nat.eq_of_beq_eq_true hbb.1
  have ho : o < 84 := zSk_lt hs (by omega)
  have hft : Nat.beq (zFT a b) 2 = false ∧ narrow (zYY a b) (.int v) = .int v ∧ fits (zYY a b) (.int v) = true := by
    have hv := hbb.2
    have hfin : (zTT a b).2.2.2 = false := h4
    have key : ∀ a', a' < 7 → ∀ b', b' < zNF a' → (zTT a' b').2.2.2 = false → zYY a' b' = .int ∨ zYY a' b' = .boolean := by decide +kernel
    rcases key a h1 b h2 hfin with ht | ht
    · have e0 : zFT a b = 0 := by simp [zFT, ht]
      rw [e0, ht]
      exact ⟨rfl, rfl, rfl⟩
    · have e0 : zFT a b = 1 := by simp [zFT, ht]
      rw [e0] at hv ⊢
      have hv : v = nI 0 ∨ v = nI 1 := by
        simp only [zbo, Bool.or_eq_true, decide_eq_true_eq] at hv
        rcases hv with q | q
        · cases q
        · exact q
      rw [ht]
      rcases hv with rfl | rfl
      · exact ⟨rfl, by decide, by decide⟩
      · exact ⟨rfl, by decide, by decide⟩
  intro H locs lj hP hS hl
  refine va_put (D := (dC, dI)) (ci := a) (C := zRR a) (T := zTT a) (N := zNF a) (v := .int v) hx hb hts (zlw h1) (zYY a) (zYY_ok h1) (zNN h1) hown hK hP (zWS_D hap hA h) hS o ((zWS_at ho).trans (by rw [zent_obj hs h1])) (zCl_at h1) b h2 (hts _ h3) (fun _ h9 => h9) h4 (zYY_ok h1 b h2) hft.2.1 hft.2.2 (by rw [zfs_len]; exact h2) hdc (fun H1 locs1 hP1 hD1 hS1 => ?_)
  rw [zfs_set h2 hft.1] at hP1
  rw [zWS_set (h' := zup h o b v) (zent_obj hs h1) (fun i hi => zup_ne hi)] at hP1
  exact hk H1 locs1 lj hP1 hS1 hl
end ZT
