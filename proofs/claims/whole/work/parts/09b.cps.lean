/-! The same step told straight on, so that it computes fast. -/
def zand (x y : Int32) : Int32 := x &&& y
def zor (x y : Int32) : Int32 := x ||| y
def zxor (x y : Int32) : Int32 := x ^^^ y
def zshl (x y : Int32) : Int32 := x <<< (y &&& 31)
def zshr (x y : Int32) : Int32 := x >>> (y &&& 31)
def zushr (x y : Int32) : Int32 := (x.toUInt32 >>> (y.toUInt32 &&& Int32.toUInt32 31)).toInt32
def zdiv (x y : Int32) : Int32 := x / y
def zrem (x y : Int32) : Int32 := x - x / y * y
def zmin (x y : Int32) : Int32 := if y < x then y else x
def zmax (x y : Int32) : Int32 := if x < y then y else x
def zi2c (x : Int32) : Int32 := (x.toUInt32 % 65536).toInt32
def zrD (orc : zOr) (K : Nat → zLs → List zV → zHp → zRs) (h : zHp) (d : zD) : zRs :=
  match d with
  | none => none
  | some (.inl (b, v)) => if b = true then some (v, h) else none
  | some (.inr (.inl (b, j, as, pc', ls', rest))) => if b = true then (orc j as h).bind (fun r => K pc' ls' (zpush r.1 rest) r.2) else none
  | some (.inr (.inr (b, n1, n2))) => if b = true then (match n1 with
      | none => none
      | some n => K n.1 n.2.1 n.2.2.1 n.2.2.2) else (match n2 with
      | none => none
      | some n => K n.1 n.2.1 n.2.2.1 n.2.2.2)
def zcps (ib : Int32 → Nat → Bool) (ci : ClassFile.Cond → Int32 → Int32 → Bool) (bo nz : Int32 → Bool) (mci : Nat → Nat) (rb : Bool) (scr : zSc) (orc : zOr) (K : Nat → zLs → List zV → zHp → zRs) (q : zE) (ls : zLs) (st : List zV) (h : zHp) : zRs :=
  match q with
  | (pc, ins, len, v, t, a, b) => match ins with
    | .iload_n k => match znth ls k with
      | some (some (.inl x)) => K (pc + 1) ls (.inl x :: st) h
      | _ => none
    | .iload k => match znth ls k with
      | some (some (.inl x)) => K (pc + 2) ls (.inl x :: st) h
      | _ => none
    | .aload_n k => match znth ls k with
      | some (some (.inr x)) => K (pc + 1) ls (.inr x :: st) h
      | _ => none
    | .istore_n k => match st with
      | .inl x :: r => if Nat.blt k ls.length = true then K (pc + 1) (zset ls k (some (.inl x))) r h else none
      | _ => none
    | .istore k => match st with
      | .inl x :: r => if Nat.blt k ls.length = true then K (pc + 2) (zset ls k (some (.inl x))) r h else none
      | _ => none
    | .iinc k _ => match znth ls k with
      | some (some (.inl x)) => if Nat.blt k ls.length = true then K (pc + 3) (zset ls k (some (.inl (x + v)))) st h else none
      | _ => none
    | .iconst _ => K (pc + 1) ls (.inl v :: st) h
    | .bipush _ => K (pc + 2) ls (.inl v :: st) h
    | .sipush _ => K (pc + 3) ls (.inl v :: st) h
    | .ldc_w _ => K (pc + 3) ls (.inl v :: st) h
    | .iadd => match st with
      | .inl y :: .inl x :: r => K (pc + 1) ls (.inl (x + y) :: r) h
      | _ => none
    | .isub => match st with
      | .inl y :: .inl x :: r => K (pc + 1) ls (.inl (x - y) :: r) h
      | _ => none
    | .imul => match st with
      | .inl y :: .inl x :: r => K (pc + 1) ls (.inl (x * y) :: r) h
      | _ => none
    | .iand => match st with
      | .inl y :: .inl x :: r => K (pc + 1) ls (.inl (zand x y) :: r) h
      | _ => none
    | .ior => match st with
      | .inl y :: .inl x :: r => K (pc + 1) ls (.inl (zor x y) :: r) h
      | _ => none
    | .ixor => match st with
      | .inl y :: .inl x :: r => K (pc + 1) ls (.inl (zxor x y) :: r) h
      | _ => none
    | .ishl => match st with
      | .inl y :: .inl x :: r => K (pc + 1) ls (.inl (zshl x y) :: r) h
      | _ => none
    | .ishr => match st with
      | .inl y :: .inl x :: r => K (pc + 1) ls (.inl (zshr x y) :: r) h
      | _ => none
    | .iushr => match st with
      | .inl y :: .inl x :: r => K (pc + 1) ls (.inl (zushr x y) :: r) h
      | _ => none
    | .idiv => match st with
      | .inl y :: .inl x :: r => if nz y = true then K (pc + 1) ls (.inl (zdiv x y) :: r) h else none
      | _ => none
    | .irem => match st with
      | .inl y :: .inl x :: r => if nz y = true then K (pc + 1) ls (.inl (zrem x y) :: r) h else none
      | _ => none
    | .i2c => match st with
      | .inl x :: r => K (pc + 1) ls (.inl (zi2c x) :: r) h
      | _ => none
    | .if_icmp c _ => match st with
      | .inl y :: .inl x :: r => if ci c x y = true then K t ls r h else K (pc + 3) ls r h
      | _ => none
    | .ifCond c _ => match st with
      | .inl x :: r => if ci c x (nI 0) = true then K t ls r h else K (pc + 3) ls r h
      | _ => none
    | .goto _ => K t ls st h
    | .tableswitch d lo hi offs => match st with
      | .inl x :: r => if (decide (x.toInt < lo) || decide (hi < x.toInt)) = true then K t ls r h else zrD orc K h (match offs[(x.toInt - lo).toNat]? with
        | some off => if 0 ≤ (pc : Int) + off then zgo (((pc : Int) + off).toNat, ls, r, h) else none
        | none => none)
      | _ => none
    | .dup => match st with
      | x :: r => K (pc + 1) ls (x :: x :: r) h
      | _ => none
    | .dup2 => match st with
      | x :: y :: r => K (pc + 1) ls (x :: y :: x :: y :: r) h
      | _ => none
    | .pop => match st with
      | _ :: r => K (pc + 1) ls r h
      | _ => none
    | .getfield _ => match st with
      | .inr o :: r => if Nat.beq (zSk o) a = true then K (pc + 3) ls ((if Nat.beq (zFT a b) 2 then .inr (zHR o b) else .inl (h o b)) :: r) h else none
      | _ => none
    | .putfield _ => match st with
      | .inl x :: .inr o :: r => if (Nat.beq (zSk o) a && (Nat.beq (zFT a b) 0 || bo x)) = true then K (pc + 3) ls r (zup h o b x) else none
      | _ => none
    | .iaload => match st with
      | .inl i :: .inr o :: r => if Nat.beq t 1 = true then (if (Nat.beq o 84 && ib i scr.1) = true then K (pc + 1) ls (.inl (scr.2 i.toNatClampNeg) :: r) h else none) else (if (Nat.beq (zSk o) 8 && ib i (zSn o)) = true then K (pc + 1) ls (.inl (h o i.toNatClampNeg) :: r) h else none)
      | _ => none
    | .caload => match st with
      | .inl i :: .inr o :: r => if (Nat.beq (zSk o) 7 && ib i (zSn o)) = true then K (pc + 1) ls (.inl (h o i.toNatClampNeg) :: r) h else none
      | _ => none
    | .aaload => match st with
      | .inl i :: .inr o :: r => if (Nat.beq (zSk o) 9 && ib i (zSn o)) = true then K (pc + 1) ls (.inr (zHR o i.toNatClampNeg) :: r) h else none
      | _ => none
    | .iastore => match st with
      | .inl x :: .inl i :: .inr o :: r => if (Nat.beq (zSk o) 8 && ib i (zSn o)) = true then K (pc + 1) ls r (zup h o i.toNatClampNeg x) else none
      | _ => none
    | .castore => match st with
      | .inl x :: .inl i :: .inr o :: r => if (Nat.beq (zSk o) 7 && ib i (zSn o)) = true then K (pc + 1) ls r (zup h o i.toNatClampNeg (vp_nar .char x)) else none
      | _ => none
    | .arraylength => match st with
      | .inr o :: r => if (Nat.beq t 1 && Nat.beq o 84) = true then K (pc + 1) ls (.inl (Int32.ofNat scr.1) :: r) h else none
      | _ => none
    | .ireturn => match st with
      | [.inl x] => if (!rb || bo x) = true then some (some x, h) else none
      | _ => none
    | .return_ => match st with
      | [] => some (none, h)
      | _ => none
    | .invokevirtual _ => match st.drop b with
      | .inr o :: rest => if (Nat.beq (zSk o) (mci a) && Nat.beq (st.take b).length b && Nat.ble rest.length 8) = true then (orc a (.inr o :: (st.take b).reverse) h).bind (fun r => K (pc + 3) ls (zpush r.1 rest) r.2) else none
      | _ => none
    | .invokestatic _ => match t with
      | 3 => match st with
        | .inl y :: .inl x :: r => if Nat.ble r.length 8 = true then K (pc + 3) ls (.inl (zmin x y) :: r) h else none
        | _ => none
      | 4 => match st with
        | .inl y :: .inl x :: r => if Nat.ble r.length 8 = true then K (pc + 3) ls (.inl (zmax x y) :: r) h else none
        | _ => none
      | 5 => match st with
        | .inl n :: .inl dp :: .inr d :: .inl sp :: .inr s :: r => if (Nat.beq (zSk s) 8 && Nat.beq (zSk d) 8 && (!decide (sp < 0) && !decide (dp < 0) && !decide (n < 0)) && Nat.ble (sp.toNatClampNeg + n.toNatClampNeg) (zSn s) && Nat.ble (dp.toNatClampNeg + n.toNatClampNeg) (zSn d) && Nat.ble r.length 8) = true then K (pc + 3) ls r (zcp h s d sp.toNatClampNeg dp.toNatClampNeg n.toNatClampNeg) else none
        | _ => none
      | _ => if (Nat.beq (st.take b).length b && Nat.ble (st.drop b).length 8) = true then (orc a (st.take b).reverse h).bind (fun r => K (pc + 3) ls (zpush r.1 (st.drop b)) r.2) else none
    | _ => none
set_option maxHeartbeats 4000000 in
theorem zcps_eq (ib : Int32 → Nat → Bool) (ci : ClassFile.Cond → Int32 → Int32 → Bool) (bo nz : Int32 → Bool) (mci : Nat → Nat) (rb : Bool) (scr : zSc) (orc : zOr) (K : Nat → zLs → List zV → zHp → zRs) (q : zE) (ls : zLs) (st : List zV) (h : zHp) :
    zrD orc K h (zstp ib ci bo nz mci rb scr q ls st h) = zcps ib ci bo nz mci rb scr orc K q ls st h := by
  obtain ⟨pc, ins, len, v, t, a, b⟩ := q
  cases ins
  case iload_n k => show zrD orc K h (zldI ls k (pc + 1) st h) = (match znth ls k with
      | some (some (.inl x)) => K (pc + 1) ls (.inl x :: st) h
      | _ => none); unfold zldI; generalize znth ls k = w; rcases w with _ | _ | x | x <;> rfl
  case iload k => show zrD orc K h (zldI ls k (pc + 2) st h) = (match znth ls k with
      | some (some (.inl x)) => K (pc + 2) ls (.inl x :: st) h
      | _ => none); unfold zldI; generalize znth ls k = w; rcases w with _ | _ | x | x <;> rfl
  case aload_n k => show zrD orc K h (zldA ls k (pc + 1) st h) = (match znth ls k with
      | some (some (.inr x)) => K (pc + 1) ls (.inr x :: st) h
      | _ => none); unfold zldA; generalize znth ls k = w; rcases w with _ | _ | x | x <;> rfl
  case iinc k n => show zrD orc K h (zinc ls k (pc + 3) v st h) = (match znth ls k with
      | some (some (.inl x)) => if Nat.blt k ls.length = true then K (pc + 3) (zset ls k (some (.inl (x + v)))) st h else none
      | _ => none); unfold zinc; generalize znth ls k = w; rcases w with _ | _ | x | x <;> rfl
  case tableswitch d lo hi offs =>
    rcases st with _ | ⟨x | x, r⟩
    · rfl
    · simp only [zstp, zcps, zrD]
      generalize offs[(x.toInt - lo).toNat]? = w
      cases w with
      | none => rfl
      | some off =>
        by_cases hp : 0 ≤ (pc : Int) + off
        · simp only [if_pos hp, zgo]; rfl
        · simp only [if_neg hp]
    · rfl
  case invokevirtual x =>
    show zrD orc K h (zcv (st.take b) a b (pc + 3) mci ls (st.drop b)) = _
    simp only [zcps]
    generalize List.drop b st = w
    rcases w with _ | ⟨y | y, r⟩
    · rfl
    · rfl
    · rfl
  case invokestatic x =>
    rcases t with _ | _ | _ | _ | _ | _ | t
    · rfl
    · rfl
    · rfl
    · rcases st with _ | ⟨x | x, _ | ⟨y | y, r⟩⟩ <;> rfl
    · rcases st with _ | ⟨x | x, _ | ⟨y | y, r⟩⟩ <;> rfl
    · rcases st with _ | ⟨x | x, _ | ⟨y | y, _ | ⟨z | z, _ | ⟨u | u, _ | ⟨w | w, r⟩⟩⟩⟩⟩ <;> rfl
    · rfl
  all_goals first
    | rfl
    | (rcases st with _ | ⟨x | x, r⟩ <;> rfl)
    | (rcases st with _ | ⟨x | x, _ | ⟨y | y, r⟩⟩ <;> rfl)
    | (rcases st with _ | ⟨x | x, _ | ⟨y | y, _ | ⟨z | z, r⟩⟩⟩ <;> rfl)
    | (rcases st with _ | ⟨x | x, _ | ⟨y | y, r⟩⟩ <;> first | rfl | (unfold zstp zcps; rcases Bool.eq_false_or_eq_true (Nat.beq t 1) with e | e <;> simp only [e] <;> rfl))
theorem zone_cps (ib : Int32 → Nat → Bool) (ci : ClassFile.Cond → Int32 → Int32 → Bool) (bo nz : Int32 → Bool) (mci : Nat → Nat) (code : List zE) (rb : Bool) (scr : zSc) (orc : zOr) (K : Nat → zLs → List zV → zHp → zRs) (pc : Nat) (ls : zLs) (st : List zV) (h : zHp) :
    zone ib ci bo nz mci code rb scr orc K pc ls st h = (match zlook code pc with
      | none => none
      | some q => zcps ib ci bo nz mci rb scr orc K q ls st h) := by
  unfold zone
  cases zlook code pc with
  | none => rfl
  | some q => exact zcps_eq ib ci bo nz mci rb scr orc K q ls st h
/-- some steps, but none through the places 'cut', and then 'K' -/
def zev (ib : Int32 → Nat → Bool) (ci : ClassFile.Cond → Int32 → Int32 → Bool) (bo nz : Int32 → Bool) (mci : Nat → Nat) (code : List zE) (rb : Bool) (scr : zSc) (orc : zOr) (cut : List Nat) (K : Nat → zLs → List zV → zHp → zRs) : Nat → Nat → zLs → List zV → zHp → zRs
  | 0 => K
  | n + 1 => fun pc ls st h => if cut.elem pc then K pc ls st h else (match zlook code pc with
      | none => none
      | some q => zcps ib ci bo nz mci rb scr orc (zev ib ci bo nz mci code rb scr orc cut K n) q ls st h)
theorem zev_eq (ib : Int32 → Nat → Bool) (ci : ClassFile.Cond → Int32 → Int32 → Bool) (bo nz : Int32 → Bool) (mci : Nat → Nat) (code : List zE) (rb : Bool) (scr : zSc) (orc : zOr) (cut : List Nat) (K : Nat → zLs → List zV → zHp → zRs) : ∀ n, zev ib ci bo nz mci code rb scr orc cut K n = zgos ib ci bo nz mci code rb scr orc cut K n := by
  intro n
  induction n with
  | zero => rfl
  | succ n ih =>
    funext pc ls st h
    show (if cut.elem pc then K pc ls st h else (match zlook code pc with
      | none => none
      | some q => zcps ib ci bo nz mci rb scr orc (zev ib ci bo nz mci code rb scr orc cut K n) q ls st h)) = (if cut.elem pc then K pc ls st h else zone ib ci bo nz mci code rb scr orc (zgos ib ci bo nz mci code rb scr orc cut K n) pc ls st h)
    rw [zone_cps, ih]
/-- from a place on: the first step is made in any case -/
theorem zrun_ev (mci : Nat → Nat) (code : List zE) (rb : Bool) (scr : zSc) (orc : zOr) (cut : List Nat) (n : Nat) (pc : Nat) (ls : zLs) (st : List zV) (h : zHp) {q : zE} (hq : zlook code pc = some q) : zrun mci code rb scr orc pc ls st h = zcps zib zci zbo znz mci rb scr orc (zev zib zci zbo znz mci code rb scr orc cut (zrun mci code rb scr orc) n) q ls st h := by
  rw [zrun_go mci code rb scr orc cut n, zone_cps, hq, zev_eq]
