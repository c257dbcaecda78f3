/-! A small machine of our own: places instead of addresses, whole numbers in rows of the heap, the code as a list; what it answers is a function. -/
abbrev zV : Type := Int32 ⊕ Nat
abbrev zLs : Type := List (Option zV)
abbrev zHp : Type := Nat → Nat → Int32
abbrev zRs : Type := Option (Option Int32 × zHp)
abbrev zOr : Type := Nat → List zV → zHp → zRs
/-- an instruction: its place, itself, its length, a number, and three more -/
abbrev zE : Type := Nat × Instr × Nat × Int32 × Nat × Nat × Nat
abbrev zN : Type := Nat × zLs × List zV × zHp
abbrev zD : Type := Option ((Bool × Option Int32) ⊕ ((Bool × Nat × List zV × Nat × zLs × List zV) ⊕ (Bool × Option zN × Option zN)))
abbrev zSc : Type := Nat × (Nat → Int32)
def zlook : List zE → Nat → Option zE
  | [], _ => none
  | q :: t, pc => if Nat.beq q.1 pc then some q else zlook t pc
def znth : zLs → Nat → Option (Option zV)
  | [], _ => none
  | a :: _, 0 => some a
  | _ :: t, i + 1 => znth t i
def zset : zLs → Nat → Option zV → zLs
  | [], _, _ => []
  | _ :: t, 0, x => x :: t
  | a :: t, i + 1, x => a :: zset t i x
def zup (h : zHp) (a k : Nat) (x : Int32) : zHp := fun b j => if b = a ∧ j = k then x else h b j
def zcp (h : zHp) (s d sp dp n : Nat) : zHp := fun b j => if b = d then va_cpy (h s) (h d) sp dp n j else h b j
def zib (i : Int32) (n : Nat) : Bool := !(decide (i < 0) || Nat.ble n i.toNatClampNeg)
def zbo (x : Int32) : Bool := decide (x = nI 0) || decide (x = nI 1)
def znz (x : Int32) : Bool := !decide (x = nI 0)
def zgo (n : zN) : zD := some (.inr (.inr (true, some n, none)))
def zif (b : Bool) (n : zN) : zD := some (.inr (.inr (b, some n, none)))
def zbr (b : Bool) (n1 n2 : zN) : zD := some (.inr (.inr (b, some n1, some n2)))
def zldI (ls : zLs) (k pc : Nat) (st : List zV) (h : zHp) : zD := match znth ls k with
  | some (some (.inl x)) => zgo (pc, ls, .inl x :: st, h)
  | _ => none
def zldA (ls : zLs) (k pc : Nat) (st : List zV) (h : zHp) : zD := match znth ls k with
  | some (some (.inr x)) => zgo (pc, ls, .inr x :: st, h)
  | _ => none
def zstI (ls : zLs) (k pc : Nat) (st : List zV) (h : zHp) : zD := match st with
  | .inl x :: r => zif (Nat.blt k ls.length) (pc, zset ls k (some (.inl x)), r, h)
  | _ => none
def zinc (ls : zLs) (k pc : Nat) (v : Int32) (st : List zV) (h : zHp) : zD := match znth ls k with
  | some (some (.inl x)) => zif (Nat.blt k ls.length) (pc, zset ls k (some (.inl (x + v))), st, h)
  | _ => none
def zop (f : Int32 → Int32 → Int32) (pc : Nat) (ls : zLs) (st : List zV) (h : zHp) : zD := match st with
  | .inl y :: .inl x :: r => zgo (pc, ls, .inl (f x y) :: r, h)
  | _ => none
def zdv (nz : Int32 → Bool) (f : Int32 → Int32 → Int32) (pc : Nat) (ls : zLs) (st : List zV) (h : zHp) : zD := match st with
  | .inl y :: .inl x :: r => zif (nz y) (pc, ls, .inl (f x y) :: r, h)
  | _ => none
def zci (c : ClassFile.Cond) (x y : Int32) : Bool := match c with
  | .eq => decide (x = y)
  | .ne => !decide (x = y)
  | .lt => decide (x < y)
  | .ge => decide (y ≤ x)
  | .gt => decide (y < x)
  | .le => decide (x ≤ y)
def zcv (r : List zV) (j n pc : Nat) (mci : Nat → Nat) (ls : zLs) : List zV → zD
  | .inr o :: rest => some (.inr (.inl (Nat.beq (zSk o) (mci j) && Nat.beq r.length n && Nat.ble rest.length 8, j, .inr o :: r.reverse, pc, ls, rest)))
  | _ => none
def zstp (ib : Int32 → Nat → Bool) (ci : ClassFile.Cond → Int32 → Int32 → Bool) (bo nz : Int32 → Bool) (mci : Nat → Nat) (rb : Bool) (scr : zSc) (q : zE) (ls : zLs) (st : List zV) (h : zHp) : zD :=
  match q with
  | (pc, ins, len, v, t, a, b) => match ins with
    | .iload_n k => zldI ls k (pc + 1) st h
    | .iload k => zldI ls k (pc + 2) st h
    | .aload_n k => zldA ls k (pc + 1) st h
    | .istore_n k => zstI ls k (pc + 1) st h
    | .istore k => zstI ls k (pc + 2) st h
    | .iinc k _ => zinc ls k (pc + 3) v st h
    | .iconst _ => zgo (pc + 1, ls, .inl v :: st, h)
    | .bipush _ => zgo (pc + 2, ls, .inl v :: st, h)
    | .sipush _ => zgo (pc + 3, ls, .inl v :: st, h)
    | .ldc_w _ => zgo (pc + 3, ls, .inl v :: st, h)
    | .iadd => zop (fun x y => x + y) (pc + 1) ls st h
    | .isub => zop (fun x y => x - y) (pc + 1) ls st h
    | .imul => zop (fun x y => x * y) (pc + 1) ls st h
    | .iand => zop (fun x y => x &&& y) (pc + 1) ls st h
    | .ior => zop (fun x y => x ||| y) (pc + 1) ls st h
    | .ixor => zop (fun x y => x ^^^ y) (pc + 1) ls st h
    | .ishl => zop (fun x y => x <<< (y &&& 31)) (pc + 1) ls st h
    | .ishr => zop (fun x y => x >>> (y &&& 31)) (pc + 1) ls st h
    | .iushr => zop (fun x y => (x.toUInt32 >>> (y.toUInt32 &&& Int32.toUInt32 31)).toInt32) (pc + 1) ls st h
    | .idiv => zdv nz (fun x y => x / y) (pc + 1) ls st h
    | .irem => zdv nz (fun x y => x - x / y * y) (pc + 1) ls st h
    | .i2c => match st with
      | .inl x :: r => zgo (pc + 1, ls, .inl ((x.toUInt32 % 65536).toInt32) :: r, h)
      | _ => none
    | .if_icmp c _ => match st with
      | .inl y :: .inl x :: r => zbr (ci c x y) (t, ls, r, h) (pc + 3, ls, r, h)
      | _ => none
    | .ifCond c _ => match st with
      | .inl x :: r => zbr (ci c x (nI 0)) (t, ls, r, h) (pc + 3, ls, r, h)
      | _ => none
    | .goto _ => zgo (t, ls, st, h)
    | .tableswitch d lo hi offs => match st with
      | .inl x :: r => some (.inr (.inr (decide (x.toInt < lo) || decide (hi < x.toInt), some (t, ls, r, h), match offs[(x.toInt - lo).toNat]? with
        | some off => if 0 ≤ (pc : Int) + off then some (((pc : Int) + off).toNat, ls, r, h) else none
        | none => none)))
      | _ => none
    | .dup => match st with
      | x :: r => zgo (pc + 1, ls, x :: x :: r, h)
      | _ => none
    | .dup2 => match st with
      | x :: y :: r => zgo (pc + 1, ls, x :: y :: x :: y :: r, h)
      | _ => none
    | .pop => match st with
      | _ :: r => zgo (pc + 1, ls, r, h)
      | _ => none
    | .getfield _ => match st with
      | .inr o :: r => zif (Nat.beq (zSk o) a) (pc + 3, ls, (if Nat.beq (zFT a b) 2 then .inr (zHR o b) else .inl (h o b)) :: r, h)
      | _ => none
    | .putfield _ => match st with
      | .inl x :: .inr o :: r => zif (Nat.beq (zSk o) a && (Nat.beq (zFT a b) 0 || bo x)) (pc + 3, ls, r, zup h o b x)
      | _ => none
    | .iaload => match st with
      | .inl i :: .inr o :: r => if Nat.beq t 1 then zif (Nat.beq o 84 && ib i scr.1) (pc + 1, ls, .inl (scr.2 i.toNatClampNeg) :: r, h) else zif (Nat.beq (zSk o) 8 && ib i (zSn o)) (pc + 1, ls, .inl (h o i.toNatClampNeg) :: r, h)
      | _ => none
    | .caload => match st with
      | .inl i :: .inr o :: r => zif (Nat.beq (zSk o) 7 && ib i (zSn o)) (pc + 1, ls, .inl (h o i.toNatClampNeg) :: r, h)
      | _ => none
    | .aaload => match st with
      | .inl i :: .inr o :: r => zif (Nat.beq (zSk o) 9 && ib i (zSn o)) (pc + 1, ls, .inr (zHR o i.toNatClampNeg) :: r, h)
      | _ => none
    | .iastore => match st with
      | .inl x :: .inl i :: .inr o :: r => zif (Nat.beq (zSk o) 8 && ib i (zSn o)) (pc + 1, ls, r, zup h o i.toNatClampNeg x)
      | _ => none
    | .castore => match st with
      | .inl x :: .inl i :: .inr o :: r => zif (Nat.beq (zSk o) 7 && ib i (zSn o)) (pc + 1, ls, r, zup h o i.toNatClampNeg (vp_nar .char x))
      | _ => none
    | .arraylength => match st with
      | .inr o :: r => zif (Nat.beq t 1 && Nat.beq o 84) (pc + 1, ls, .inl (Int32.ofNat scr.1) :: r, h)
      | _ => none
    | .ireturn => match st with
      | [.inl x] => some (.inl (!rb || bo x, some x))
      | _ => none
    | .return_ => match st with
      | [] => some (.inl (true, none))
      | _ => none
    | .invokevirtual _ => zcv (st.take b) a b (pc + 3) mci ls (st.drop b)
    | .invokestatic _ => match t with
      | 3 => match st with
        | .inl y :: .inl x :: r => zif (Nat.ble r.length 8) (pc + 3, ls, .inl (if y < x then y else x) :: r, h)
        | _ => none
      | 4 => match st with
        | .inl y :: .inl x :: r => zif (Nat.ble r.length 8) (pc + 3, ls, .inl (if x < y then y else x) :: r, h)
        | _ => none
      | 5 => match st with
        | .inl n :: .inl dp :: .inr d :: .inl sp :: .inr s :: r => zif (Nat.beq (zSk s) 8 && Nat.beq (zSk d) 8 && (!decide (sp < 0) && !decide (dp < 0) && !decide (n < 0)) && Nat.ble (sp.toNatClampNeg + n.toNatClampNeg) (zSn s) && Nat.ble (dp.toNatClampNeg + n.toNatClampNeg) (zSn d) && Nat.ble r.length 8) (pc + 3, ls, r, zcp h s d sp.toNatClampNeg dp.toNatClampNeg n.toNatClampNeg)
        | _ => none
      | _ => some (.inr (.inl (Nat.beq (st.take b).length b && Nat.ble (st.drop b).length 8, a, (st.take b).reverse, pc + 3, ls, st.drop b)))
    | _ => none
def zpush (v : Option Int32) (st : List zV) : List zV := match v with
  | some x => .inl x :: st
  | none => st
/-- the run of a code from a place on -/
def zrun (mci : Nat → Nat) (code : List zE) (rb : Bool) (scr : zSc) (orc : zOr) (pc : Nat) (ls : zLs) (st : List zV) (h : zHp) : zRs :=
  match zlook code pc with
  | none => none
  | some q => match zstp zib zci zbo znz mci rb scr q ls st h with
    | none => none
    | some (.inl (b, v)) => if b = true then some (v, h) else none
    | some (.inr (.inl (b, j, as, pc', ls', rest))) => if b = true then (orc j as h) >>= (fun r => zrun mci code rb scr orc pc' ls' (zpush r.1 rest) r.2) else none
    | some (.inr (.inr (b, n1, n2))) => if b = true then (match n1 with
        | none => none
        | some n => zrun mci code rb scr orc n.1 n.2.1 n.2.2.1 n.2.2.2) else (match n2 with
        | none => none
        | some n => zrun mci code rb scr orc n.1 n.2.1 n.2.2.1 n.2.2.2)
partial_fixpoint
/-- one step, and then what 'K' says; the tests are variables, so that none of them is computed -/
def zone (ib : Int32 → Nat → Bool) (ci : ClassFile.Cond → Int32 → Int32 → Bool) (bo nz : Int32 → Bool) (mci : Nat → Nat) (code : List zE) (rb : Bool) (scr : zSc) (orc : zOr) (K : Nat → zLs → List zV → zHp → zRs) (pc : Nat) (ls : zLs) (st : List zV) (h : zHp) : zRs :=
  match zlook code pc with
  | none => none
  | some q => match zstp ib ci bo nz mci rb scr q ls st h with
    | none => none
    | some (.inl (b, v)) => if b = true then some (v, h) else none
    | some (.inr (.inl (b, j, as, pc', ls', rest))) => if b = true then (orc j as h).bind (fun r => K pc' ls' (zpush r.1 rest) r.2) else none
    | some (.inr (.inr (b, n1, n2))) => if b = true then (match n1 with
        | none => none
        | some n => K n.1 n.2.1 n.2.2.1 n.2.2.2) else (match n2 with
        | none => none
        | some n => K n.1 n.2.1 n.2.2.1 n.2.2.2)
/-- some steps, but none through the places 'cut', and then 'K' -/
def zgos (ib : Int32 → Nat → Bool) (ci : ClassFile.Cond → Int32 → Int32 → Bool) (bo nz : Int32 → Bool) (mci : Nat → Nat) (code : List zE) (rb : Bool) (scr : zSc) (orc : zOr) (cut : List Nat) (K : Nat → zLs → List zV → zHp → zRs) : Nat → Nat → zLs → List zV → zHp → zRs
  | 0 => K
  | n + 1 => fun pc ls st h => if cut.elem pc then K pc ls st h else zone ib ci bo nz mci code rb scr orc (zgos ib ci bo nz mci code rb scr orc cut K n) pc ls st h
theorem zrun_one (mci : Nat → Nat) (code : List zE) (rb : Bool) (scr : zSc) (orc : zOr) : zrun mci code rb scr orc = zone zib zci zbo znz mci code rb scr orc (zrun mci code rb scr orc) := by
  funext pc ls st h
  rw [zrun.eq_1]
  rfl
theorem zgos_eq (mci : Nat → Nat) (code : List zE) (rb : Bool) (scr : zSc) (orc : zOr) (cut : List Nat) : ∀ n, zgos zib zci zbo znz mci code rb scr orc cut (zrun mci code rb scr orc) n = zrun mci code rb scr orc := by
  intro n
  induction n with
  | zero => rfl
  | succ n ih =>
    funext pc ls st h
    show (if cut.elem pc then zrun mci code rb scr orc pc ls st h else zone zib zci zbo znz mci code rb scr orc (zgos zib zci zbo znz mci code rb scr orc cut (zrun mci code rb scr orc) n) pc ls st h) = _
    rw [ih]
    split
    · rfl
    · exact (congrFun (congrFun (congrFun (congrFun (zrun_one mci code rb scr orc) pc) ls) st) h).symm
/-- from a place on: the first step is made in any case -/
theorem zrun_go (mci : Nat → Nat) (code : List zE) (rb : Bool) (scr : zSc) (orc : zOr) (cut : List Nat) (n : Nat) (pc : Nat) (ls : zLs) (st : List zV) (h : zHp) : zrun mci code rb scr orc pc ls st h = zone zib zci zbo znz mci code rb scr orc (zgos zib zci zbo znz mci code rb scr orc cut (zrun mci code rb scr orc) n) pc ls st h := by
  rw [zgos_eq]
  exact congrFun (congrFun (congrFun (congrFun (zrun_one mci code rb scr orc) pc) ls) st) h
