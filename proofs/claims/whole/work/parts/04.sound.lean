/-! The small machine's run is the machine's. -/
def zlen (n : Nat) : Instr → Nat
  | .iload_n _ => 1
  | .iload _ => 2
  | .aload_n _ => 1
  | .istore_n _ => 1
  | .istore _ => 2
  | .iinc _ _ => 3
  | .iconst _ => 1
  | .bipush _ => 2
  | .sipush _ => 3
  | .ldc_w _ => 3
  | .iadd => 1
  | .isub => 1
  | .imul => 1
  | .iand => 1
  | .ior => 1
  | .ixor => 1
  | .ishl => 1
  | .ishr => 1
  | .iushr => 1
  | .idiv => 1
  | .irem => 1
  | .i2c => 1
  | .if_icmp _ _ => 3
  | .ifCond _ _ => 3
  | .goto _ => 3
  | .dup => 1
  | .dup2 => 1
  | .pop => 1
  | .getfield _ => 3
  | .putfield _ => 3
  | .iaload => 1
  | .caload => 1
  | .aaload => 1
  | .iastore => 1
  | .castore => 1
  | .arraylength => 1
  | .ireturn => 1
  | .return_ => 1
  | .invokevirtual _ => 3
  | .invokestatic _ => 3
  | _ => n
/-- what a call wants of the tables: the callee's own words -/
def zcl (y : MethodName) (b : ByteArray) (ml : Nat) (rt : Option FieldType) (n : Nat) : Prop :=
  Jvm.Cond.initialized y.cls ∈ zbw ∧ Jvm.Cond.code y b ml rt ∈ zbw ∧ (y.cls ≠ "java/lang/invoke/MethodHandle" ∧ y.cls ≠ "java/lang/invoke/VarHandle" ∧ (parseMethodDescriptor y.desc).map (fun d => d.parameters.length) = some n) ∧ ml ≤ 40
/-- the same, and how its answer comes -/
def zOK (yM : Nat → MethodName) (bM : Nat → ByteArray) (lM : Nat → Nat) (tM : Nat → Option FieldType) (mci : Nat → Nat) (i : Nat) (own : String) (sf : Bool) (q : zE) : Prop :=
  match q with
  | (pc, ins, _, v, t, a, b) => match ins with
    | .iconst n => Int32.ofInt n = v
    | .bipush n => (Int8.ofInt n).toInt32 = v
    | .sipush n => (Int16.ofInt n).toInt32 = v
    | .ldc_w x => Jvm.Cond.constant own x v ∈ zbw
    | .iinc _ n => Int32.ofInt n = v
    | .if_icmp _ off => (pc : Int) + off = (t : Int)
    | .ifCond _ off => (pc : Int) + off = (t : Int)
    | .goto off => (pc : Int) + off = (t : Int)
    | .tableswitch d _ _ _ => (pc : Int) + d = (t : Int)
    | .getfield x => a < 7 ∧ b < zNF a ∧ Jvm.Cond.fieldLink own x (zTT a b).1 (zTT a b).2.1 (zTT a b).2.2.1 ∈ zbw
    | .putfield x => a < 7 ∧ b < zNF a ∧ Jvm.Cond.fieldLink own x (zTT a b).1 (zTT a b).2.1 (zTT a b).2.2.1 ∈ zbw ∧ (zTT a b).2.2.2 = false
    | .iaload => t = 0 ∨ (t = 1 ∧ sf = true)
    | .arraylength => sf = true
    | .ireturn => (tM i).isSome = true
    | .return_ => tM i = none
    | .invokevirtual x => a < i ∧ mci a < 7 ∧ (yM a).cls = zRR (mci a) ∧ zcl (yM a) (bM a) (lM a) (tM a) b ∧ Jvm.Cond.methodLink own x (yM a) ∈ zbw ∧ Jvm.Cond.instanceMethod (yM a) ∈ zbw ∧ Jvm.Cond.selects (yM a).cls (yM a) (yM a) ∈ zbw
    | .invokestatic x => (t = 3 ∧ Jvm.Cond.methodLink own x Lib.Math.min.name ∈ zbw ∧ Jvm.Cond.static Lib.Math.min.name ∈ zbw ∧ Jvm.Cond.initialized "java/lang/Math" ∈ zbw ∧ Jvm.Cond.code Lib.Math.min.name Lib.Math.min.code 2 (some .int) ∈ zbw) ∨
      (t = 4 ∧ Jvm.Cond.methodLink own x Lib.Math.max.name ∈ zbw ∧ Jvm.Cond.static Lib.Math.max.name ∈ zbw ∧ Jvm.Cond.initialized "java/lang/Math" ∈ zbw ∧ Jvm.Cond.code Lib.Math.max.name Lib.Math.max.code 2 (some .int) ∈ zbw) ∨
      (t = 5 ∧ Jvm.Cond.methodLink own x arraycopyName ∈ zbw ∧ Jvm.Cond.native arraycopyName ∈ zbw ∧ Jvm.Cond.static arraycopyName ∈ zbw ∧ Jvm.Cond.initialized "java/lang/System" ∈ zbw) ∨
      (t = 1 ∧ a < i ∧ zcl (yM a) (bM a) (lM a) (tM a) b ∧ Jvm.Cond.static (yM a) ∈ zbw ∧ Jvm.Cond.methodLink own x (yM a) ∈ zbw) ∨
      (t = 2 ∧ a < i ∧ zcl (yM a) (bM a) (lM a) (tM a) b ∧ Jvm.Cond.static (yM a) ∈ zbw ∧ ∃ h, (own, x, yM a, h) ∈ zNL)
    | _ => True
def zwsM (yM : Nat → MethodName) (bM : Nat → ByteArray) (lM : Nat → Nat) (tM : Nat → Option FieldType) (i : Nat) : List Jvm.Cond := Jvm.Cond.code (yM i) (bM i) (lM i) (tM i) :: zbw
def zrm (i : Nat) : Room := { frames := i + 1, cells := 0, slots := 0, locals := 60 * (i + 1) }
/-- a method's answer, as the kit's ends have it -/
def zQ (dC : Nat → ClassId) (dI : Nat → Nat → Nat) (ad : Nat → Nat) (cI cC cS : ClassId) (r : Option Int32) (h : zHp) : Array Value → State → Outcome → State → Prop := match r with
  | some x => va_Qi (fun (y : Int32) (_ : Unit) => y = x) (fun _ t => zWD dC dI ad cI cC cS h t) (zAD ad)
  | none => va_Qv (fun (_ : Unit) => True) (fun _ t => zWD dC dI ad cI cC cS h t) (zAD ad)
/-- the contract of the method 'i', that it answers as 'f' does -/
def zCT (l : Launch) (dC : Nat → ClassId) (dI : Nat → Nat → Nat) (ad : Nat → Nat) (cI cC cS : ClassId) (yM : Nat → MethodName) (bM : Nat → ByteArray) (lM : Nat → Nat) (tM : Nat → Option FieldType) (i : Nat) (f : List zV → zHp → zRs) : Prop :=
  ∀ (as : List zV) (h : zHp) (r : Option Int32) (h' : zHp), f as h = some (r, h') →
    Met l (yM i) (zwsM yM bM lM tM i) (zrm i) (va_Pc (as.map (ztr ad)) (zWD dC dI ad cI cC cS h)) (zQ dC dI ad cI cC cS r h') 0 0 (zAD ad)
theorem zblind {dC : Nat → ClassId} {dI : Nat → Nat → Nat} {ad : Nat → Nat} {cI cC cS : ClassId} {h : zHp} {as : List Value} : FrameBlind (va_Pc as (zWD dC dI ad cI cC cS h)) := by
  intro a U g mk q
  obtain ⟨q0, qP, qK, qN⟩ := q
  exact ⟨q0, qP, va_K.moved (u := U) (U := U.calling g mk a) (Vm.Alike.refl U.vm) qK, fun n hn => va_Nw.same (u := U) rfl rfl (qN n hn)⟩
theorem zNE_warm {s U : State} (hW : s.WarmedH U.vm) (h : zNE s) : zNE U := fun n hn => va_Nw.warmM hW (h n hn)
theorem zgoodIn {c : Jvm.Cond} {ws : List Jvm.Cond} (h : ∀ w ∈ ws, w ∈ zbw) : GoodIn (c :: zbw) ws := fun w hw => ⟨List.mem_cons_of_mem _ (h w hw), zgood (h w hw)⟩
section ZS
variable {p : Program} {l : Launch} {e : Env} {R : Room} {s : State} {m : MethodId} {args : Array Value} {below : List Frame} {meth : Method} {c : Code} {cells slots : Nat} {Q : State → Prop}
variable {ad : Nat → Nat} {cI cC cS : ClassId} {dC : Nat → ClassId} {dI : Nat → Nat → Nat} {A : Nat → Prop} {H0 : Heap} {nL : Nat} {cc : ByteArray} {own : String}
/-- from here on the machine comes to its end -/
def zW (p : Program) (l : Launch) (e : Env) (R : Room) (s : State) (m : MethodId) (args : Array Value) (below : List Frame) (meth : Method) (c : Code) (cells slots : Nat) (Q : State → Prop) (ad : Nat → Nat) (cI cC cS : ClassId) (dC : Nat → ClassId) (dI : Nat → Nat → Nat) (A : Nat → Prop) (H0 : Heap) (nL : Nat) (pc : Nat) (ls : zLs) (st : List zV) (h : zHp) : Prop :=
  ∀ (H : Heap) (locs : List Loc) (lj : Array Slot), va_P (dC, dI) zCl (zWS ad cI cC cS h) H → va_S A H0 H locs → zLR ad lj nL ls → W p l e R s m args below meth c H locs cells slots Q (F0 m pc lj (st.map (ztr ad)))
/-- what a step leaves to be shown -/
def zG (orc : zOr) (i : Nat) (r0 : Option Int32 × zHp) (K : Nat → zLs → List zV → zHp → Prop) (h : zHp) : ((Bool × Option Int32) ⊕ ((Bool × Nat × List zV × Nat × zLs × List zV) ⊕ (Bool × Option zN × Option zN))) → Prop
  | .inl (b, v) => b = true ∧ r0 = (v, h)
  | .inr (.inl (b, j, as, pc, ls, rest)) => b = true ∧ ∃ q, orc j as h = some q ∧ K pc ls (zpush q.1 rest) q.2
  | .inr (.inr (b, n1, n2)) => (b = true → ∃ n, n1 = some n ∧ K n.1 n.2.1 n.2.2.1 n.2.2.2) ∧ (b = false → ∃ n, n2 = some n ∧ K n.1 n.2.1 n.2.2.1 n.2.2.2)
theorem zG_go {orc : zOr} {i : Nat} {r0 : Option Int32 × zHp} {K : Nat → zLs → List zV → zHp → Prop} {h : zHp} {n : zN} {d} (hd : zgo n = some d) (hg : zG orc i r0 K h d) : K n.1 n.2.1 n.2.2.1 n.2.2.2 := by
  cases hd
  obtain ⟨n', h1, h2⟩ := hg.1 rfl
  cases h1
  exact h2
theorem zG_if {orc : zOr} {i : Nat} {r0 : Option Int32 × zHp} {K : Nat → zLs → List zV → zHp → Prop} {h : zHp} {n : zN} {b : Bool} {d} (hd : zif b n = some d) (hg : zG orc i r0 K h d) : b = true ∧ K n.1 n.2.1 n.2.2.1 n.2.2.2 := by
  cases hd
  cases b with
  | true =>
    obtain ⟨n', h1, h2⟩ := hg.1 rfl
    cases h1
    exact ⟨rfl, h2⟩
  | false =>
    obtain ⟨n', h1, h2⟩ := hg.2 rfl
    cases h1
theorem zG_br {orc : zOr} {i : Nat} {r0 : Option Int32 × zHp} {K : Nat → zLs → List zV → zHp → Prop} {h : zHp} {n1 n2 : zN} {b : Bool} {d} (hd : zbr b n1 n2 = some d) (hg : zG orc i r0 K h d) : (b = true → K n1.1 n1.2.1 n1.2.2.1 n1.2.2.2) ∧ (b = false → K n2.1 n2.2.1 n2.2.2.1 n2.2.2.2) := by
  cases hd
  refine ⟨fun hb => ?_, fun hb => ?_⟩
  · obtain ⟨n', h1, h2⟩ := hg.1 hb
    cases h1
    exact h2
  · obtain ⟨n', h1, h2⟩ := hg.2 hb
    cases h1
    exact h2
theorem zib_in {i : Int32} {n : Nat} (h : zib i n = true) : vp_in i n := by
  simp only [zib, Bool.not_eq_true', Bool.or_eq_false_iff, decide_eq_false_iff_not] at h
  rintro (q | q)
  · exact h.1 q
  · have h1 := Nat.ble_eq_true_of_le q
    rw [h.2] at h1
    cases h1
end ZS
