/-! The makers: what they make, by the kit's own rows. -/
def zNL2 : List (String × Nat × MethodName × String) := [("BorderPaints$State", 36, ⟨"BorderPaints$Borders", "<init>", "()V"⟩, "BorderPaints"), ("BorderPaints", 32, ⟨"BorderPaints$BorderText", "<init>", "()V"⟩, "BorderPaints"), ("BorderPaints", 39, ⟨"BorderPaints$Repainter", "<init>", "()V"⟩, "BorderPaints")]
def zNE2 (U : State) : Prop := (∀ n ∈ zNL2, va_Nw (.methodLinkNest n.1 n.2.1 n.2.2.1 n.2.2.2) U) ∧ va_AO "BorderPaints$State" U
theorem zNE2_warm {s U : State} (hW : s.WarmedH U.vm) (h : zNE2 s) : zNE2 U := ⟨fun n hn => va_Nw.warmM hW (h.1 n hn), va_AO.moved hW.alike h.2⟩
/-- what a maker leaves: the world 'wd' of the object and of what it made -/
def zKC (l : Launch) (dC : Nat → ClassId) (dI : Nat → Nat → Nat) (cI cC cS : ClassId) (y : MethodName) (b : ByteArray) (ml : Nat) (rm : Room) (mc ms ci : Nat) (fs0 : List Value) (wd : Nat → (Nat → Nat) → va_W) : Prop :=
  ∀ h0 sz : Nat, Met l y (Jvm.Cond.code y b ml none :: zbw) rm (va_Pc [.ref h0] (fun U => U.heap.size = sz ∧ va_P (dC, dI) zCl [(h0, .inr (ci, fs0))] U.heap ∧ va_K (dC, dI) zCl (zty cI cC cS) U ∧ va_D (fun _ => True) [(h0, .inr (ci, fs0))] ∧ zNE2 U))
    (va_Qv (fun (_ : Nat → Nat) => True) (fun a t => va_P (dC, dI) zCl (wd h0 a) t.heap ∧ va_D (va_A [(h0, .inr (ci, fs0))] sz) (wd h0 a)) (va_A [(h0, .inr (ci, fs0))] sz)) mc ms (va_A [(h0, .inr (ci, fs0))] sz)
/-- the frame of a maker -/
def zKF (p : Program) (s : State) (m : MethodId) (args : Array Value) (meth : Method) (c : Code) (cI cC cS : ClassId) (dC : Nat → ClassId) (dI : Nat → Nat → Nat) (A : Nat → Prop) (H0 : Heap) (nL : Nat) (cc : ByteArray) (own : String) : Prop :=
  p.tables.exec = Jvm.exec ∧ c.code = cc ∧ c.maxLocals = nL ∧ s.vm.findClass own = some m.cls ∧ (∀ w ∈ zbw, w.before args s = true) ∧ va_K (dC, dI) zCl (zty cI cC cS) s ∧ zNE2 s ∧ (∀ q : Nat, H0.size ≤ q → A q) ∧ meth.locks = false ∧ meth.sig.returnType = none ∧ meth.name = "<init>"
section ZK
variable {p : Program} {l : Launch} {e : Env} {R : Room} {s : State} {m : MethodId} {args : Array Value} {below : List Frame} {meth : Method} {c : Code} {H : Heap} {locs : List Loc} {cells slots : Nat} {Q : State → Prop}
variable {cI cC cS : ClassId} {dC : Nat → ClassId} {dI : Nat → Nat → Nat} {A : Nat → Prop} {H0 : Heap} {nL : Nat} {cc : ByteArray} {own : String} {pc : Nat} {ls : Array Slot} {rest : List Value} {ws : va_W}
theorem zk_newI (F : p.tables.exec = Jvm.exec ∧ c.code = cc) (harr : (Cond.arrayClass .int).before args s = true) (hK : va_K (dC, dI) zCl (zty cI cC cS) s) (hA : ∀ q : Nat, H0.size ≤ q → A q) (hP : va_P (dC, dI) zCl ws H) (hD : va_D A ws) (hS : va_S A H0 H locs)
    {n : Int32} {N : Nat} (hn : ¬ n < 0) (hN : n.toNatClampNeg = N) (hbytes : N * 4 ≤ 536870912) (hcells : cells + 1 ≤ R.cells) (hslots : slots + N ≤ R.slots) (hdg : decode cc pc = .ok (.newarray .int, 2))
    (kk : ∀ (q : Nat) (H1 : Heap), va_P (dC, dI) zCl (ws ++ [(q, .inl (cI, N, .inl (fun _ => 0)))]) H1 → va_D A (ws ++ [(q, .inl (cI, N, .inl (fun _ => 0)))]) → va_S A H0 H1 locs → W p l e R s m args below meth c H1 locs (cells + 1) (slots + N) Q (F0 m (pc + 2) ls (.ref q :: rest))) :
    W p l e R s m args below meth c H locs cells slots Q (F0 m pc ls (.int n :: rest)) := by
  refine va_newa (atype := .int) (ty := .int) (a0 := (N, .inl (fun _ => 0))) F.1 F.2 harr rfl hK hP hD hS hA (fun cA => rfl) hn hN hbytes hcells hslots hdg (fun q cA H1 hK1 hP1 hD1 hS1 => ?_)
  have e1 : va_RA s cA .int := (hK1.2 3 (cA, .int) rfl).2
  have e2 : va_RA s cI .int := (hK.2 0 (cI, .int) rfl).2
  have e3 : cA = cI := Option.some.inj (e1.symm.trans e2)
  subst e3
  exact kk q H1 hP1 hD1 hS1
theorem zk_newC (F : p.tables.exec = Jvm.exec ∧ c.code = cc) (harr : (Cond.arrayClass .char).before args s = true) (hK : va_K (dC, dI) zCl (zty cI cC cS) s) (hA : ∀ q : Nat, H0.size ≤ q → A q) (hP : va_P (dC, dI) zCl ws H) (hD : va_D A ws) (hS : va_S A H0 H locs)
    {n : Int32} {N : Nat} (hn : ¬ n < 0) (hN : n.toNatClampNeg = N) (hbytes : N * 2 ≤ 536870912) (hcells : cells + 1 ≤ R.cells) (hslots : slots + N ≤ R.slots) (hdg : decode cc pc = .ok (.newarray .char, 2))
    (kk : ∀ (q : Nat) (H1 : Heap), va_P (dC, dI) zCl (ws ++ [(q, .inl (cC, N, .inl (fun _ => 0)))]) H1 → va_D A (ws ++ [(q, .inl (cC, N, .inl (fun _ => 0)))]) → va_S A H0 H1 locs → W p l e R s m args below meth c H1 locs (cells + 1) (slots + N) Q (F0 m (pc + 2) ls (.ref q :: rest))) :
    W p l e R s m args below meth c H locs cells slots Q (F0 m pc ls (.int n :: rest)) := by
  refine va_newa (atype := .char) (ty := .char) (a0 := (N, .inl (fun _ => 0))) F.1 F.2 harr rfl hK hP hD hS hA (fun cA => rfl) hn hN hbytes hcells hslots hdg (fun q cA H1 hK1 hP1 hD1 hS1 => ?_)
  have e1 : va_RA s cA .char := (hK1.2 3 (cA, .char) rfl).2
  have e2 : va_RA s cC .char := (hK.2 1 (cC, .char) rfl).2
  have e3 : cA = cC := Option.some.inj (e1.symm.trans e2)
  subst e3
  exact kk q H1 hP1 hD1 hS1
theorem zk_newS (F : p.tables.exec = Jvm.exec ∧ c.code = cc) (hown : s.vm.findClass own = some m.cls) {index : Nat} (hcl : (Cond.classLink own index "BorderPaints$State").before args s = true) (hNE : zNE2 s) (hK : va_K (dC, dI) zCl (zty cI cC cS) s) (hA : ∀ q : Nat, H0.size ≤ q → A q) (hP : va_P (dC, dI) zCl ws H) (hD : va_D A ws) (hS : va_S A H0 H locs)
    {n : Int32} {N : Nat} (hn : ¬ n < 0) (hN : n.toNatClampNeg = N) (hbytes : N * 4 ≤ 536870912) (hcells : cells + 1 ≤ R.cells) (hslots : slots + N ≤ R.slots) (hdg : decode cc pc = .ok (.anewarray index, 3))
    (kk : ∀ (q : Nat) (H1 : Heap), va_P (dC, dI) zCl (ws ++ [(q, .inl (cS, N, .inr (.inr (.inr (.inr (fun _ => none))))))]) H1 → va_D A (ws ++ [(q, .inl (cS, N, .inr (.inr (.inr (.inr (fun _ => none))))))]) → va_S A H0 H1 locs → W p l e R s m args below meth c H1 locs (cells + 1) (slots + N) Q (F0 m (pc + 3) ls (.ref q :: rest))) :
    W p l e R s m args below meth c H locs cells slots Q (F0 m pc ls (.int n :: rest)) := by
  refine va_newq F.1 F.2 hown hcl hNE.2 hK hP hD hS hA hn hN hbytes hcells hslots hdg (fun q cA H1 hK1 hP1 hD1 hS1 => ?_)
  obtain ⟨-, -, -, -, -, e1⟩ := (hK1.2 3 (cA, .object "BorderPaints$State") rfl).2
  obtain ⟨-, -, -, -, -, e2⟩ := (hK.2 2 (cS, .object "BorderPaints$State") rfl).2
  have e3 : cA = cS := Option.some.inj (e1.symm.trans e2)
  subst e3
  exact kk q H1 hP1 hD1 hS1
/-- a field of the object that stands first is set -/
theorem zk_put (F : p.tables.exec = Jvm.exec ∧ c.code = cc) (hown : s.vm.findClass own = some m.cls) (hts : ∀ w ∈ zbw, w.before args s = true) (hK : va_K (dC, dI) zCl (zty cI cC cS) s) {h0 ci k x : Nat} {fs fs' : List Value} {v : Value} (hc : ci < 7) (hk : k < zNF ci) (hP : va_P (dC, dI) zCl ((h0, .inr (ci, fs)) :: ws) H) (hD : va_D A ((h0, .inr (ci, fs)) :: ws)) (hS : va_S A H0 H locs)
    (hlink : Cond.fieldLink own x (zTT ci k).1 (zTT ci k).2.1 (zTT ci k).2.2.1 ∈ zbw) (hfin : (zTT ci k).2.2.2 = false ∨ ((zTT ci k).2.2.2 = true ∧ meth.name = "<init>" ∧ (zTT ci k).1 = own)) (hn : narrow (zYY ci k) v = v) (hfit : fits (zYY ci k) v = true) (hl : k < fs.length) (hfs : fs.set k v = fs') (hdg : decode cc pc = .ok (.putfield x, 3))
    (kk : ∀ (H1 : Heap) (locs1 : List Loc), va_P (dC, dI) zCl ((h0, .inr (ci, fs')) :: ws) H1 → va_D A ((h0, .inr (ci, fs')) :: ws) → va_S A H0 H1 locs1 → W p l e R s m args below meth c H1 locs1 cells slots Q (F0 m (pc + 3) ls rest)) :
    W p l e R s m args below meth c H locs cells slots Q (F0 m pc ls (v :: .ref h0 :: rest)) := by
  subst hfs
  rcases hfin with hfin | ⟨h1, h2, h3⟩
  · exact va_put (D := (dC, dI)) (ci := ci) (C := zRR ci) (T := zTT ci) (N := zNF ci) F.1 F.2 hts (zlw hc) (zYY ci) (zYY_ok hc) (zNN hc) hown hK hP hD hS 0 rfl (zCl_at hc) k hk (hts _ hlink) (fun _ h9 => h9) hfin (zYY_ok hc k hk) hn hfit hl hdg (fun H1 locs1 a b d => kk H1 locs1 a b d)
  · exact va_putF (D := (dC, dI)) (ci := ci) (C := zRR ci) (T := zTT ci) (N := zNF ci) F.1 F.2 hts (zlw hc) (zYY ci) (zYY_ok hc) (zNN hc) hown hK hP hD hS 0 rfl (zCl_at hc) k hk (hts _ hlink) (fun _ h9 => h9) h1 h2 h3 (zYY_ok hc k hk) hn hfit hl hdg (fun H1 locs1 a b d => kk H1 locs1 a b d)
theorem zk_nd : ∀ n k : Nat, va_nd (List.range' k n) = true := by
  intro n
  induction n with
  | zero => intro k; rfl
  | succ n ih =>
    intro k
    show va_nd (k :: List.range' (k + 1) n) = true
    unfold va_nd
    have h1 : k ∉ List.range' (k + 1) n := by
      intro h
      have := List.mem_range'_1.mp h
      omega
    simp [h1, ih (k + 1)]
theorem zk_join {D : va_G} {x : Nat × va_E} {w1 : va_W} {H1 : Heap} (hP : va_P D zCl (ws ++ [x]) H) (hD : va_D A (ws ++ [x])) (hk : ∀ q : Nat, q < H.size → ¬ va_A [x] H.size q → H1[q]? = H[q]?) (hF : ∀ q, va_A [x] H.size q → A q) (hP1 : va_P D zCl w1 H1) (hD1 : va_D (va_A [x] H.size) w1) : va_P D zCl (ws ++ w1) H1 ∧ va_D A (ws ++ w1) := by
  refine va_join hP hD [ws.length] (List.range' 0 ws.length) ?_ ?_ (zk_nd _ _) ?_ hk hF hP1 hD1
  · simp
  · apply List.ext_getElem?
    intro i
    by_cases hi : i < ws.length
    · rw [List.getElem?_map, List.getElem?_range' (by omega), List.getElem?_map]
      simp [hi, List.getElem?_append_left hi]
    · rw [List.getElem?_eq_none (by simp; omega), List.getElem?_eq_none (by simp; omega)]
  · intro i hi h
    have h1 := List.mem_range'_1.mp hi
    have h2 := List.mem_singleton.mp h
    omega
/-- a maker is called on the object that was made last -/
theorem zk_call (F : zKF p s m args meth c cI cC cS dC dI A H0 nL cc own) {y : MethodName} {b : ByteArray} {ml mc ms ci x q : Nat} {rm : Room} {fs0 : List Value} {wd : Nat → (Nat → Nat) → va_W} (hM : zKC l dC dI cI cC cS y b ml rm mc ms ci fs0 wd)
    (hlk : Cond.methodLink own x y ∈ zbw ∨ ∃ h, (own, x, y, h) ∈ zNL2) (hini : Cond.initialized y.cls ∈ zbw) (hin : Cond.instanceMethod y ∈ zbw) (hcode : Cond.code y b ml none ∈ zbw) (hy1 : y.name = "<init>") (hd : y.cls ≠ "java/lang/invoke/MethodHandle" ∧ y.cls ≠ "java/lang/invoke/VarHandle" ∧ (parseMethodDescriptor y.desc).map (fun d => d.parameters.length) = some 0)
    (hrc : rm.cells = mc) (hrs : rm.slots = ms) (hR : rm.frames + 1 ≤ R.frames ∧ 8 + (ml + 11) + rm.locals ≤ R.locals) (hcs : cells + mc ≤ R.cells ∧ slots + ms ≤ R.slots)
    (hl : ls.size = nL) (hrest : (rest.map fun v => v.category).sum ≤ 8) (hP : va_P (dC, dI) zCl (ws ++ [(q, .inr (ci, fs0))]) H) (hD : va_D A (ws ++ [(q, .inr (ci, fs0))])) (hS : va_S A H0 H locs) (hdg : decode cc pc = .ok (.invokespecial x, 3))
    (kk : ∀ (a : Nat → Nat) (H1 : Heap) (locs1 : List Loc), va_P (dC, dI) zCl (ws ++ wd q a) H1 → va_D A (ws ++ wd q a) → va_S A H0 H1 locs1 → W p l e R s m args below meth c H1 locs1 (cells + mc) (slots + ms) Q (F0 m (pc + 3) ls rest)) :
    W p l e R s m args below meth c H locs cells slots Q (F0 m pc ls (.ref q :: rest)) := by
  obtain ⟨hx, hb, hml, hown, hts, hK, hNE, hA, -, -, -⟩ := F
  have hlast : (ws ++ [(q, .inr (ci, fs0))])[ws.length]? = some (q, (.inr (ci, fs0) : va_E)) := by simp
  have hPc : va_P (dC, dI) zCl [(q, .inr (ci, fs0))] H := fun k z hz => by
    have hk : k < 1 := (List.getElem?_eq_some_iff.mp hz).1
    have hk0 : k = 0 := by omega
    subst hk0
    cases hz
    exact hP _ _ hlast
  have hDc : va_D (fun _ => True) [(q, (.inr (ci, fs0) : va_E))] := ⟨fun i j a b hi hj _ => by
    have h1 := (List.getElem?_eq_some_iff.mp hi).1
    have h2 := (List.getElem?_eq_some_iff.mp hj).1
    simp at h1 h2
    omega, fun _ _ _ => trivial⟩
  have hF : ∀ z, va_A [(q, (.inr (ci, fs0) : va_E))] H.size z → A z := by
    intro z hz
    rcases hz with ⟨k, ee, hz⟩ | hz
    · have hk : k < 1 := (List.getElem?_eq_some_iff.mp hz).1
      have hk0 : k = 0 := by omega
      subst hk0
      cases hz
      exact hD.2 _ _ hlast
    · exact hA z (Nat.le_trans hS.1 hz)
  have hG : GoodIn zbw (Cond.code y b ml none :: zbw) := fun w hw => by
    rcases List.mem_cons.mp hw with rfl | hw
    · exact ⟨hcode, zgood hcode⟩
    · exact ⟨hw, zgood hw⟩
  have hbl : FrameBlind (va_Pc [.ref q] (fun U => U.heap.size = H.size ∧ va_P (dC, dI) zCl [(q, .inr (ci, fs0))] U.heap ∧ va_K (dC, dI) zCl (zty cI cC cS) U ∧ va_D (fun _ => True) [(q, (.inr (ci, fs0) : va_E))] ∧ zNE2 U)) := by
    intro a U g mk z
    obtain ⟨z0, z1, z2, z3, z4, z5, z6⟩ := z
    exact ⟨z0, z1, z2, va_K.moved (u := U) (U := U.calling g mk a) (Vm.Alike.refl U.vm) z3, z4, fun n hn => va_Nw.same (u := U) rfl rfl (z5 n hn), va_AO.moved (u := U) (Vm.Alike.refl U.vm) z6⟩
  have hp : PreS s H (va_Pc [.ref q] (fun U => U.heap.size = H.size ∧ va_P (dC, dI) zCl [(q, .inr (ci, fs0))] U.heap ∧ va_K (dC, dI) zCl (zty cI cC cS) U ∧ va_D (fun _ => True) [(q, (.inr (ci, fs0) : va_E))] ∧ zNE2 U)) (.ref q :: []) := ⟨hbl, fun U hU hW => ⟨rfl, by rw [hU], by rw [hU]; exact hPc, va_K.moved hW.alike hK, hDc, zNE2_warm hW hNE⟩⟩
  have fin : ∀ (u : Nat → Nat) (t : State) (H1 : Heap) (locs1 : List Loc), t.heap = H1 → s.vm.Alike t.vm → True → (va_P (dC, dI) zCl (wd q u) t.heap ∧ va_D (va_A [(q, (.inr (ci, fs0) : va_E))] H.size) (wd q u)) → H.size ≤ H1.size → (∀ z : Nat, z < H.size → ¬ va_A [(q, (.inr (ci, fs0) : va_E))] H.size z → H1[z]? = H[z]?) → va_S A H0 H1 locs1 → W p l e R s m args below meth c H1 locs1 (cells + mc) (slots + ms) Q (F0 m (pc + 3) ls rest) := by
    intro u t H1 locs1 ht _ _ hB _ hk1 hS1
    obtain ⟨hP1, hD1⟩ := hB
    rw [ht] at hP1
    obtain ⟨hP2, hD2⟩ := zk_join hP hD hk1 hF hP1 hD1
    exact kk u H1 locs1 hP2 hD2 hS1
  rcases hlk with hlk | ⟨ho, hlk⟩
  · exact va_callv (va_runI (As := []) (rest := rest) ⟨hx, hb, hml, hown, hts⟩ (hM q H.size) (cwI 0 hts hG rfl hrc hrs (hts _ hini) (hts _ hlk) (hts _ hin) hy1 hd hR) hp rfl rfl hl rfl (lv_room hrest) hdg hcs) hS (fun z _ h => hF z h) hF fin
  · exact va_callv (va_runIN (As := []) (rest := rest) ⟨hx, hb, hml, hown, hts⟩ (hM q H.size) ⟨va_cnB 0 hts hG rfl hrc hrs (hNE.1 _ hlk) (hts _ hini) hd hR, hy1, hts _ hin⟩ hp rfl rfl hl rfl (lv_room hrest) hdg hcs) hS (fun z _ h => hF z h) hF fin
/-- a maker's contract out of a walk of its body -/
theorem zk_met {y : MethodName} {b : ByteArray} {ml mc ms ci : Nat} {rm : Room} {fs0 : List Value} {wd : Nat → (Nat → Nat) → va_W} (hplain : plainName y.cls = true) (hname : y.name = "<init>") (hml1 : 1 ≤ ml)
    (body : ∀ (h0 : Nat) (p : Program) (e : Env) (s : State) (m : MethodId) (args : Array Value) (below : List Frame) (meth : Method) (c : Code) (A : Nat → Prop) (ls : Array Slot) (Q : State → Prop), zKF p s m args meth c cI cC cS dC dI A s.heap ml b y.cls → lv_has ls ml [(0, .ref h0)] → va_P (dC, dI) zCl [(h0, .inr (ci, fs0))] s.heap → va_D A [(h0, .inr (ci, fs0))] →
      (∀ (a : Nat → Nat) (pc : Nat) (H : Heap) (locs : List Loc) (lj : Array Slot), decode b pc = .ok (.return_, 1) → va_P (dC, dI) zCl (wd h0 a) H → va_D A (wd h0 a) → va_S A s.heap H locs → W p l e (headSpec (Cond.code y b ml none :: zbw) rm).room s m args below meth c H locs mc ms Q (F0 m pc lj [])) →
      W p l e (headSpec (Cond.code y b ml none :: zbw) rm).room s m args below meth c s.heap [] 0 0 Q (F0 m 0 ls [])) : zKC l dC dI cI cC cS y b ml rm mc ms ci fs0 wd := by
  intro h0 sz
  refine Met.ofW (cc := b) (maxL := ml) (ret := none) hplain rfl ?_
  intro p e s m args below meth c s₁ B hml hv
  obtain ⟨rfl, hsz, hP, hK, hD0, hNE⟩ := hv
  have hx := B.exec
  have hb := B.bytes
  have hr := B.returns
  have hts0 := atoms_spec (ws := Cond.code y b ml none :: zbw) B.pre
  have hts : ∀ w ∈ zbw, w.before ([Value.ref h0] : List Value).toArray s = true := fun w hw => hts0 w (List.mem_cons_of_mem _ hw)
  have hown : s.vm.findClass y.cls = some m.cls := findClass_of_methodNamed B.named
  have hlocks := B.notSynchronized
  have hin : meth.name = "<init>" := (name_of_methodNamed B.named B.method).1.trans hname
  subst hsz
  have hD := hD0.self (sz := s.heap.size)
  have hA : ∀ q : Nat, s.heap.size ≤ q → va_A [(h0, (.inr (ci, fs0) : va_E))] s.heap.size q := fun q h => Or.inr h
  have hl := lv_entry ([.ref h0]) (n := ml) hml1
  rw [lg_entry_eq]
  refine body h0 p e s m _ below meth c (va_A [(h0, (.inr (ci, fs0) : va_E))] s.heap.size) _ _ ⟨hx, hb, hml, hown, hts, hK, hNE, hA, hlocks, hr, hin⟩ hl hP hD ?_
  intro a pc H locs lj hdg hP1 hD1 hS1
  exact W.vret hx hb hr (fun t ht hW => ⟨⟨a, rfl, trivial, by rw [ht]; exact hP1, hD1⟩, hS1.F ht⟩) hS1.2.2 hdg hlocks
end ZK
