/-! the claim out of one walk of the law's body (began as the skeleton); the walk up to the loop; the loop is the small machine's -/
/-! THE CLAIM OUT OF ONE WALK OF THE LAW'S BODY. Your part is whole_start (and what it stands on); all else here is the same for every law, but numbers. -/
def R_law : String := "BorderPaintsLaw"
def lw_P (b : Addr) (xs : List Int32) (args : Array Value) (s : State) : Prop := args = #[.ref b] ∧ s.IntsAt b xs ∧ xs.length ≤ 2560 ∧ (Jvm.Cond.and given_1 narrow_1).before args s = true
def lw_Q (_ : Array Value) (s : State) (o : Outcome) (t : State) : Prop := o = .returned (some (.int 1)) ∧ Framed s o t [] 600000 7302250
def lw_Z (below : List Frame) (a : Array Value) (s : State) : State → Prop := fun t => ∃ o, t.status = .running ∧ Ended t below o ∧ lw_Q a s o t
/-- the law's own end, with 1 on the stack, nothing written that was there before, its room as the claim has it -/
theorem lw_ret {p : Program} {l : Launch} {e : Env} {s : State} {m : MethodId} {below : List Frame} {meth : Method} {c : Code} {b : Nat} (hx : p.tables.exec = Jvm.exec) (hb : c.code = code) (hr : meth.sig.returnType = ret) (hlocks : meth.locks = false) {pc : Nat} {H : Heap} {ls : Array Slot} (hdg : decode code pc = .ok (.ireturn, 1)) : W p l e room_1 s m #[Value.ref b] below meth c H [] 600000 7302250 (lw_Z below #[Value.ref b] s) (F0 m pc ls [.int 1]) := by
  intro T hT X
  obtain ⟨fs, hret, hrun, hended, hW, hframe⟩ := X.leave (v := some (.int 1)) (hlocks := hlocks) (fun h => by rw [hr] at h; cases h)
  have hmeth' : T.vm.method? m = some meth := X.method'
  refine ⟨T.setFrames fs, ?_, .returned (some (.int 1)), hrun, hended, rfl, ⟨_, rfl⟩, hW, hframe⟩
  jvm_step X.here [X.here.top, hx, hb, hdg, hmeth', hr, ret, narrow_b1]
  (try refine ⟨rfl, ?_⟩); (try refine ⟨rfl, ?_⟩)
  first | (intro acts; rw [hret _ acts rfl rfl rfl]) | rw [hret _ _ rfl rfl rfl]
  exact Steps.refl _
/-- what holds at the law's entry: the machine, the code, the tables' words (any of lw_tbl by 'hts w (by decide +kernel)'), the script of L ints xs at the cell b, what the Statement gives of the start (any of its parts by flat_of_before) -/
def lw_At (p : Program) (s : State) (m : MethodId) (meth : Method) (c : Code) (b L : Nat) (xs : Nat → Int32) : Prop :=
  p.tables.exec = Jvm.exec ∧ c.code = code ∧ meth.sig.returnType = ret ∧ c.maxLocals = 4 ∧ s.vm.findClass R_law = some m.cls ∧ (∀ w ∈ lw_tbl, w.before #[Value.ref b] s = true) ∧ va_X b L xs s s.heap ∧ b < s.heap.size ∧ meth.locks = false ∧ (Jvm.Cond.and given_1 narrow_1).before #[Value.ref b] s = true
def zorL : zOr := zorc [(68, zM_68), (4, zM_4), (77, zM_77), (14, zM_14), (78, zM_78), (15, zM_15), (80, zM_80), (18, zM_18), (84, zM_84), (20, zM_20), (89, zM_89), (23, zM_23), (96, zM_96), (28, zM_28), (100, zM_100), (30, zM_30), (101, zM_101), (31, zM_31), (115, zM_115), (36, zM_36), (120, zM_120), (39, zM_39), (122, zM_122), (40, zM_40), (123, zM_123), (41, zM_41), (125, zM_125), (42, zM_42), (126, zM_126), (43, zM_43), (127, zM_127), (44, zM_44), (130, zM_130), (47, zM_47), (131, zM_131), (48, zM_48), (132, zM_132), (49, zM_49), (133, zM_133), (50, zM_50), (135, zM_135), (52, zM_52), (136, zM_136), (53, zM_53), (138, zM_138), (54, zM_54), (151, zM_151), (55, zM_55), (163, zM_163), (56, zM_56), (165, zM_165), (57, zM_57), (166, zM_166), (58, zM_58), (170, zM_170), (61, zM_61)]
theorem zorL_ok {l : Launch} {dC : Nat → ClassId} {dI : Nat → Nat → Nat} {ad : Nat → Nat} {cI cC cS : ClassId} (hap : zap ad) : ∀ j, zCT l dC dI ad cI cC cS zyM zbM zlM ztM j (zorL j) := zorc_cons (zC_68 hap) (zorc_cons (zC_4 hap) (zorc_cons (zC_77 hap) (zorc_cons (zC_14 hap) (zorc_cons (zC_78 hap) (zorc_cons (zC_15 hap) (zorc_cons (zC_80 hap) (zorc_cons (zC_18 hap) (zorc_cons (zC_84 hap) (zorc_cons (zC_20 hap) (zorc_cons (zC_89 hap) (zorc_cons (zC_23 hap) (zorc_cons (zC_96 hap) (zorc_cons (zC_28 hap) (zorc_cons (zC_100 hap) (zorc_cons (zC_30 hap) (zorc_cons (zC_101 hap) (zorc_cons (zC_31 hap) (zorc_cons (zC_115 hap) (zorc_cons (zC_36 hap) (zorc_cons (zC_120 hap) (zorc_cons (zC_39 hap) (zorc_cons (zC_122 hap) (zorc_cons (zC_40 hap) (zorc_cons (zC_123 hap) (zorc_cons (zC_41 hap) (zorc_cons (zC_125 hap) (zorc_cons (zC_42 hap) (zorc_cons (zC_126 hap) (zorc_cons (zC_43 hap) (zorc_cons (zC_127 hap) (zorc_cons (zC_44 hap) (zorc_cons (zC_130 hap) (zorc_cons (zC_47 hap) (zorc_cons (zC_131 hap) (zorc_cons (zC_48 hap) (zorc_cons (zC_132 hap) (zorc_cons (zC_49 hap) (zorc_cons (zC_133 hap) (zorc_cons (zC_50 hap) (zorc_cons (zC_135 hap) (zorc_cons (zC_52 hap) (zorc_cons (zC_136 hap) (zorc_cons (zC_53 hap) (zorc_cons (zC_138 hap) (zorc_cons (zC_54 hap) (zorc_cons (zC_151 hap) (zorc_cons (zC_55 hap) (zorc_cons (zC_163 hap) (zorc_cons (zC_56 hap) (zorc_cons (zC_165 hap) (zorc_cons (zC_57 hap) (zorc_cons (zC_166 hap) (zorc_cons (zC_58 hap) (zorc_cons (zC_170 hap) (zorc_cons (zC_61 hap) (zorc_nil))))))))))))))))))))))))))))))))))))))))))))))))))))))))
/-- the heap as the makers leave it -/
def zh0 : zHp := fun b j => match b with
  | 5 => zfb j
  | 14 => zfb j
  | 25 => zfb j
  | 34 => zfb j
  | 43 => zfb j
  | 52 => zfb j
  | 67 => zfb j
  | 77 => zmn j
  | 76 => if j = 11 then -5 else if j = 12 then -5 else 0
  | _ => 0
def zw84 (cI cC cS : ClassId) (q0 : Nat) (a : Nat → Nat) (q1 : Nat) (a1 : Nat → Nat) : va_W := zw_P cI cC cS q0 a ++ zw_M cI cC q1 a1
def zad (q0 : Nat) (a : Nat → Nat) (q1 : Nat) (a1 : Nat → Nat) (b : Nat) : Nat → Nat := fun k => if k = 84 then b else if k = 0 then q0 else if k < 76 then a k else if k = 76 then q1 else a1 (k - 76)
theorem zarrQ {cA : ClassId} {n : Nat} {f g : Nat → Option Nat} (h : ∀ j, j < n → f j = g j) : vp_cell cA (n, .inr (.inr (.inr (.inr f)))) = vp_cell cA (n, .inr (.inr (.inr (.inr g)))) := by
  rw [vp_cell_q, vp_cell_q]
  unfold arrV
  congr 1
  congr 1
  funext j
  show va_rf (f j.val) = va_rf (g j.val)
  rw [h j.val j.isLt]
def zfl (cI cC cS : ClassId) (q0 : Nat) (a : Nat → Nat) (q1 : Nat) (a1 : Nat → Nat) : va_W := [(q0, .inr (5, [.ref (a 1), .ref (a 10), .int 0, .ref (a 19), .ref (a 57), .ref (a 62)])),
  (a 1, .inr (4, [.int 0, .int 0, .int 0, .ref (a 2), .ref (a 3), .ref (a 4), .ref (a 5), .ref (a 6)])),
  (a 2, .inl (cI, 8, .inl (fun _ => 0))),
  (a 3, .inl (cI, 8, .inl (fun _ => 0))),
  (a 4, .inl (cI, 8, .inl (fun _ => 0))),
  (a 5, .inl (cI, 4, .inl zfb)),
  (a 6, .inr (1, [.int 0, .ref (a 7), .ref (a 8), .ref (a 9)])),
  (a 7, .inl (cI, 28, .inl (fun _ => 0))),
  (a 8, .inl (cI, 28, .inl (fun _ => 0))),
  (a 9, .inl (cI, 28, .inl (fun _ => 0))),
  (a 10, .inr (4, [.int 0, .int 0, .int 0, .ref (a 11), .ref (a 12), .ref (a 13), .ref (a 14), .ref (a 15)])),
  (a 11, .inl (cI, 8, .inl (fun _ => 0))),
  (a 12, .inl (cI, 8, .inl (fun _ => 0))),
  (a 13, .inl (cI, 8, .inl (fun _ => 0))),
  (a 14, .inl (cI, 4, .inl zfb)),
  (a 15, .inr (1, [.int 0, .ref (a 16), .ref (a 17), .ref (a 18)])),
  (a 16, .inl (cI, 28, .inl (fun _ => 0))),
  (a 17, .inl (cI, 28, .inl (fun _ => 0))),
  (a 18, .inl (cI, 28, .inl (fun _ => 0))),
  (a 19, .inr (2, [.int 0, .int 0, .ref (a 20)])),
  (a 20, .inl (cS, 4, .inr (.inr (.inr (.inr (zsx (fun k => a (19 + k)))))))),
  (a 21, .inr (4, [.int 0, .int 0, .int 0, .ref (a 22), .ref (a 23), .ref (a 24), .ref (a 25), .ref (a 26)])),
  (a 22, .inl (cI, 8, .inl (fun _ => 0))),
  (a 23, .inl (cI, 8, .inl (fun _ => 0))),
  (a 24, .inl (cI, 8, .inl (fun _ => 0))),
  (a 25, .inl (cI, 4, .inl zfb)),
  (a 26, .inr (1, [.int 0, .ref (a 27), .ref (a 28), .ref (a 29)])),
  (a 27, .inl (cI, 28, .inl (fun _ => 0))),
  (a 28, .inl (cI, 28, .inl (fun _ => 0))),
  (a 29, .inl (cI, 28, .inl (fun _ => 0))),
  (a 30, .inr (4, [.int 0, .int 0, .int 0, .ref (a 31), .ref (a 32), .ref (a 33), .ref (a 34), .ref (a 35)])),
  (a 31, .inl (cI, 8, .inl (fun _ => 0))),
  (a 32, .inl (cI, 8, .inl (fun _ => 0))),
  (a 33, .inl (cI, 8, .inl (fun _ => 0))),
  (a 34, .inl (cI, 4, .inl zfb)),
  (a 35, .inr (1, [.int 0, .ref (a 36), .ref (a 37), .ref (a 38)])),
  (a 36, .inl (cI, 28, .inl (fun _ => 0))),
  (a 37, .inl (cI, 28, .inl (fun _ => 0))),
  (a 38, .inl (cI, 28, .inl (fun _ => 0))),
  (a 39, .inr (4, [.int 0, .int 0, .int 0, .ref (a 40), .ref (a 41), .ref (a 42), .ref (a 43), .ref (a 44)])),
  (a 40, .inl (cI, 8, .inl (fun _ => 0))),
  (a 41, .inl (cI, 8, .inl (fun _ => 0))),
  (a 42, .inl (cI, 8, .inl (fun _ => 0))),
  (a 43, .inl (cI, 4, .inl zfb)),
  (a 44, .inr (1, [.int 0, .ref (a 45), .ref (a 46), .ref (a 47)])),
  (a 45, .inl (cI, 28, .inl (fun _ => 0))),
  (a 46, .inl (cI, 28, .inl (fun _ => 0))),
  (a 47, .inl (cI, 28, .inl (fun _ => 0))),
  (a 48, .inr (4, [.int 0, .int 0, .int 0, .ref (a 49), .ref (a 50), .ref (a 51), .ref (a 52), .ref (a 53)])),
  (a 49, .inl (cI, 8, .inl (fun _ => 0))),
  (a 50, .inl (cI, 8, .inl (fun _ => 0))),
  (a 51, .inl (cI, 8, .inl (fun _ => 0))),
  (a 52, .inl (cI, 4, .inl zfb)),
  (a 53, .inr (1, [.int 0, .ref (a 54), .ref (a 55), .ref (a 56)])),
  (a 54, .inl (cI, 28, .inl (fun _ => 0))),
  (a 55, .inl (cI, 28, .inl (fun _ => 0))),
  (a 56, .inl (cI, 28, .inl (fun _ => 0))),
  (a 57, .inr (0, [.int 0, .ref (a 58), .int 0, .ref (a 59), .ref (a 60), .ref (a 61)])),
  (a 58, .inl (cC, 60, .inl (fun _ => 0))),
  (a 59, .inl (cI, 16, .inl (fun _ => 0))),
  (a 60, .inl (cI, 16, .inl (fun _ => 0))),
  (a 61, .inl (cI, 16, .inl (fun _ => 0))),
  (a 62, .inr (3, [.ref (a 63), .ref (a 72), .ref (a 73), .ref (a 74), .ref (a 75), .int 0, .int 0])),
  (a 63, .inr (4, [.int 0, .int 0, .int 0, .ref (a 64), .ref (a 65), .ref (a 66), .ref (a 67), .ref (a 68)])),
  (a 64, .inl (cI, 8, .inl (fun _ => 0))),
  (a 65, .inl (cI, 8, .inl (fun _ => 0))),
  (a 66, .inl (cI, 8, .inl (fun _ => 0))),
  (a 67, .inl (cI, 4, .inl zfb)),
  (a 68, .inr (1, [.int 0, .ref (a 69), .ref (a 70), .ref (a 71)])),
  (a 69, .inl (cI, 28, .inl (fun _ => 0))),
  (a 70, .inl (cI, 28, .inl (fun _ => 0))),
  (a 71, .inl (cI, 28, .inl (fun _ => 0))),
  (a 72, .inl (cI, 8, .inl (fun _ => 0))),
  (a 73, .inl (cI, 8, .inl (fun _ => 0))),
  (a 74, .inl (cI, 8, .inl (fun _ => 0))),
  (a 75, .inl (cI, 8, .inl (fun _ => 0))),
  (q1, .inr (6, [.ref (a1 1), .ref (a1 2), .int 0, .ref (a1 3), .int 0, .ref (a1 4), .ref (a1 5), .ref (a1 6), .int 0, .int 0, .int 0, .int (-5), .int (-5), .int 0, .ref (a1 7), .int 0, .int 0, .int 0, .int 0])),
  (a1 1, .inl (cI, 150, .inl zmn)),
  (a1 2, .inl (cI, 600, .inl (fun _ => 0))),
  (a1 3, .inl (cI, 150, .inl (fun _ => 0))),
  (a1 4, .inl (cI, 8, .inl (fun _ => 0))),
  (a1 5, .inl (cI, 8, .inl (fun _ => 0))),
  (a1 6, .inl (cI, 8, .inl (fun _ => 0))),
  (a1 7, .inl (cC, 60, .inl (fun _ => 0)))]
set_option maxRecDepth 100000 in
theorem zfl_eq (cI cC cS : ClassId) (q0 : Nat) (a : Nat → Nat) (q1 : Nat) (a1 : Nat → Nat) : zw84 cI cC cS q0 a q1 a1 = zfl cI cC cS q0 a q1 a1 := rfl
theorem zE_0 (ad : Nat → Nat) (cI cC cS : ClassId) : zent ad cI cC cS zh0 0 = .inr (5, [.ref (ad 1), .ref (ad 10), .int 0, .ref (ad 19), .ref (ad 57), .ref (ad 62)]) := (zent_obj (by rfl) (by decide)).trans rfl
theorem zE_1 (ad : Nat → Nat) (cI cC cS : ClassId) : zent ad cI cC cS zh0 1 = .inr (4, [.int 0, .int 0, .int 0, .ref (ad 2), .ref (ad 3), .ref (ad 4), .ref (ad 5), .ref (ad 6)]) := (zent_obj (by rfl) (by decide)).trans rfl
theorem zE_2 (ad : Nat → Nat) (cI cC cS : ClassId) : zent ad cI cC cS zh0 2 = .inl (cI, 8, .inl (fun _ => 0)) := (zent_int (by rfl)).trans rfl
theorem zE_3 (ad : Nat → Nat) (cI cC cS : ClassId) : zent ad cI cC cS zh0 3 = .inl (cI, 8, .inl (fun _ => 0)) := (zent_int (by rfl)).trans rfl
theorem zE_4 (ad : Nat → Nat) (cI cC cS : ClassId) : zent ad cI cC cS zh0 4 = .inl (cI, 8, .inl (fun _ => 0)) := (zent_int (by rfl)).trans rfl
theorem zE_5 (ad : Nat → Nat) (cI cC cS : ClassId) : zent ad cI cC cS zh0 5 = .inl (cI, 4, .inl zfb) := (zent_int (by rfl)).trans rfl
theorem zE_6 (ad : Nat → Nat) (cI cC cS : ClassId) : zent ad cI cC cS zh0 6 = .inr (1, [.int 0, .ref (ad 7), .ref (ad 8), .ref (ad 9)]) := (zent_obj (by rfl) (by decide)).trans rfl
theorem zE_7 (ad : Nat → Nat) (cI cC cS : ClassId) : zent ad cI cC cS zh0 7 = .inl (cI, 28, .inl (fun _ => 0)) := (zent_int (by rfl)).trans rfl
theorem zE_8 (ad : Nat → Nat) (cI cC cS : ClassId) : zent ad cI cC cS zh0 8 = .inl (cI, 28, .inl (fun _ => 0)) := (zent_int (by rfl)).trans rfl
theorem zE_9 (ad : Nat → Nat) (cI cC cS : ClassId) : zent ad cI cC cS zh0 9 = .inl (cI, 28, .inl (fun _ => 0)) := (zent_int (by rfl)).trans rfl
theorem zE_10 (ad : Nat → Nat) (cI cC cS : ClassId) : zent ad cI cC cS zh0 10 = .inr (4, [.int 0, .int 0, .int 0, .ref (ad 11), .ref (ad 12), .ref (ad 13), .ref (ad 14), .ref (ad 15)]) := (zent_obj (by rfl) (by decide)).trans rfl
theorem zE_11 (ad : Nat → Nat) (cI cC cS : ClassId) : zent ad cI cC cS zh0 11 = .inl (cI, 8, .inl (fun _ => 0)) := (zent_int (by rfl)).trans rfl
theorem zE_12 (ad : Nat → Nat) (cI cC cS : ClassId) : zent ad cI cC cS zh0 12 = .inl (cI, 8, .inl (fun _ => 0)) := (zent_int (by rfl)).trans rfl
theorem zE_13 (ad : Nat → Nat) (cI cC cS : ClassId) : zent ad cI cC cS zh0 13 = .inl (cI, 8, .inl (fun _ => 0)) := (zent_int (by rfl)).trans rfl
theorem zE_14 (ad : Nat → Nat) (cI cC cS : ClassId) : zent ad cI cC cS zh0 14 = .inl (cI, 4, .inl zfb) := (zent_int (by rfl)).trans rfl
theorem zE_15 (ad : Nat → Nat) (cI cC cS : ClassId) : zent ad cI cC cS zh0 15 = .inr (1, [.int 0, .ref (ad 16), .ref (ad 17), .ref (ad 18)]) := (zent_obj (by rfl) (by decide)).trans rfl
theorem zE_16 (ad : Nat → Nat) (cI cC cS : ClassId) : zent ad cI cC cS zh0 16 = .inl (cI, 28, .inl (fun _ => 0)) := (zent_int (by rfl)).trans rfl
theorem zE_17 (ad : Nat → Nat) (cI cC cS : ClassId) : zent ad cI cC cS zh0 17 = .inl (cI, 28, .inl (fun _ => 0)) := (zent_int (by rfl)).trans rfl
theorem zE_18 (ad : Nat → Nat) (cI cC cS : ClassId) : zent ad cI cC cS zh0 18 = .inl (cI, 28, .inl (fun _ => 0)) := (zent_int (by rfl)).trans rfl
theorem zE_19 (ad : Nat → Nat) (cI cC cS : ClassId) : zent ad cI cC cS zh0 19 = .inr (2, [.int 0, .int 0, .ref (ad 20)]) := (zent_obj (by rfl) (by decide)).trans rfl
theorem zE_20 (ad : Nat → Nat) (cI cC cS : ClassId) : zent ad cI cC cS zh0 20 = .inl (cS, 4, .inr (.inr (.inr (.inr (fun j => some (ad (zHR 20 j))))))) := (zent_sts (by rfl)).trans rfl
theorem zE_21 (ad : Nat → Nat) (cI cC cS : ClassId) : zent ad cI cC cS zh0 21 = .inr (4, [.int 0, .int 0, .int 0, .ref (ad 22), .ref (ad 23), .ref (ad 24), .ref (ad 25), .ref (ad 26)]) := (zent_obj (by rfl) (by decide)).trans rfl
theorem zE_22 (ad : Nat → Nat) (cI cC cS : ClassId) : zent ad cI cC cS zh0 22 = .inl (cI, 8, .inl (fun _ => 0)) := (zent_int (by rfl)).trans rfl
theorem zE_23 (ad : Nat → Nat) (cI cC cS : ClassId) : zent ad cI cC cS zh0 23 = .inl (cI, 8, .inl (fun _ => 0)) := (zent_int (by rfl)).trans rfl
theorem zE_24 (ad : Nat → Nat) (cI cC cS : ClassId) : zent ad cI cC cS zh0 24 = .inl (cI, 8, .inl (fun _ => 0)) := (zent_int (by rfl)).trans rfl
theorem zE_25 (ad : Nat → Nat) (cI cC cS : ClassId) : zent ad cI cC cS zh0 25 = .inl (cI, 4, .inl zfb) := (zent_int (by rfl)).trans rfl
theorem zE_26 (ad : Nat → Nat) (cI cC cS : ClassId) : zent ad cI cC cS zh0 26 = .inr (1, [.int 0, .ref (ad 27), .ref (ad 28), .ref (ad 29)]) := (zent_obj (by rfl) (by decide)).trans rfl
theorem zE_27 (ad : Nat → Nat) (cI cC cS : ClassId) : zent ad cI cC cS zh0 27 = .inl (cI, 28, .inl (fun _ => 0)) := (zent_int (by rfl)).trans rfl
theorem zE_28 (ad : Nat → Nat) (cI cC cS : ClassId) : zent ad cI cC cS zh0 28 = .inl (cI, 28, .inl (fun _ => 0)) := (zent_int (by rfl)).trans rfl
theorem zE_29 (ad : Nat → Nat) (cI cC cS : ClassId) : zent ad cI cC cS zh0 29 = .inl (cI, 28, .inl (fun _ => 0)) := (zent_int (by rfl)).trans rfl
theorem zE_30 (ad : Nat → Nat) (cI cC cS : ClassId) : zent ad cI cC cS zh0 30 = .inr (4, [.int 0, .int 0, .int 0, .ref (ad 31), .ref (ad 32), .ref (ad 33), .ref (ad 34), .ref (ad 35)]) := (zent_obj (by rfl) (by decide)).trans rfl
theorem zE_31 (ad : Nat → Nat) (cI cC cS : ClassId) : zent ad cI cC cS zh0 31 = .inl (cI, 8, .inl (fun _ => 0)) := (zent_int (by rfl)).trans rfl
theorem zE_32 (ad : Nat → Nat) (cI cC cS : ClassId) : zent ad cI cC cS zh0 32 = .inl (cI, 8, .inl (fun _ => 0)) := (zent_int (by rfl)).trans rfl
theorem zE_33 (ad : Nat → Nat) (cI cC cS : ClassId) : zent ad cI cC cS zh0 33 = .inl (cI, 8, .inl (fun _ => 0)) := (zent_int (by rfl)).trans rfl
theorem zE_34 (ad : Nat → Nat) (cI cC cS : ClassId) : zent ad cI cC cS zh0 34 = .inl (cI, 4, .inl zfb) := (zent_int (by rfl)).trans rfl
theorem zE_35 (ad : Nat → Nat) (cI cC cS : ClassId) : zent ad cI cC cS zh0 35 = .inr (1, [.int 0, .ref (ad 36), .ref (ad 37), .ref (ad 38)]) := (zent_obj (by rfl) (by decide)).trans rfl
theorem zE_36 (ad : Nat → Nat) (cI cC cS : ClassId) : zent ad cI cC cS zh0 36 = .inl (cI, 28, .inl (fun _ => 0)) := (zent_int (by rfl)).trans rfl
theorem zE_37 (ad : Nat → Nat) (cI cC cS : ClassId) : zent ad cI cC cS zh0 37 = .inl (cI, 28, .inl (fun _ => 0)) := (zent_int (by rfl)).trans rfl
theorem zE_38 (ad : Nat → Nat) (cI cC cS : ClassId) : zent ad cI cC cS zh0 38 = .inl (cI, 28, .inl (fun _ => 0)) := (zent_int (by rfl)).trans rfl
theorem zE_39 (ad : Nat → Nat) (cI cC cS : ClassId) : zent ad cI cC cS zh0 39 = .inr (4, [.int 0, .int 0, .int 0, .ref (ad 40), .ref (ad 41), .ref (ad 42), .ref (ad 43), .ref (ad 44)]) := (zent_obj (by rfl) (by decide)).trans rfl
theorem zE_40 (ad : Nat → Nat) (cI cC cS : ClassId) : zent ad cI cC cS zh0 40 = .inl (cI, 8, .inl (fun _ => 0)) := (zent_int (by rfl)).trans rfl
theorem zE_41 (ad : Nat → Nat) (cI cC cS : ClassId) : zent ad cI cC cS zh0 41 = .inl (cI, 8, .inl (fun _ => 0)) := (zent_int (by rfl)).trans rfl
theorem zE_42 (ad : Nat → Nat) (cI cC cS : ClassId) : zent ad cI cC cS zh0 42 = .inl (cI, 8, .inl (fun _ => 0)) := (zent_int (by rfl)).trans rfl
theorem zE_43 (ad : Nat → Nat) (cI cC cS : ClassId) : zent ad cI cC cS zh0 43 = .inl (cI, 4, .inl zfb) := (zent_int (by rfl)).trans rfl
theorem zE_44 (ad : Nat → Nat) (cI cC cS : ClassId) : zent ad cI cC cS zh0 44 = .inr (1, [.int 0, .ref (ad 45), .ref (ad 46), .ref (ad 47)]) := (zent_obj (by rfl) (by decide)).trans rfl
theorem zE_45 (ad : Nat → Nat) (cI cC cS : ClassId) : zent ad cI cC cS zh0 45 = .inl (cI, 28, .inl (fun _ => 0)) := (zent_int (by rfl)).trans rfl
theorem zE_46 (ad : Nat → Nat) (cI cC cS : ClassId) : zent ad cI cC cS zh0 46 = .inl (cI, 28, .inl (fun _ => 0)) := (zent_int (by rfl)).trans rfl
theorem zE_47 (ad : Nat → Nat) (cI cC cS : ClassId) : zent ad cI cC cS zh0 47 = .inl (cI, 28, .inl (fun _ => 0)) := (zent_int (by rfl)).trans rfl
theorem zE_48 (ad : Nat → Nat) (cI cC cS : ClassId) : zent ad cI cC cS zh0 48 = .inr (4, [.int 0, .int 0, .int 0, .ref (ad 49), .ref (ad 50), .ref (ad 51), .ref (ad 52), .ref (ad 53)]) := (zent_obj (by rfl) (by decide)).trans rfl
theorem zE_49 (ad : Nat → Nat) (cI cC cS : ClassId) : zent ad cI cC cS zh0 49 = .inl (cI, 8, .inl (fun _ => 0)) := (zent_int (by rfl)).trans rfl
theorem zE_50 (ad : Nat → Nat) (cI cC cS : ClassId) : zent ad cI cC cS zh0 50 = .inl (cI, 8, .inl (fun _ => 0)) := (zent_int (by rfl)).trans rfl
theorem zE_51 (ad : Nat → Nat) (cI cC cS : ClassId) : zent ad cI cC cS zh0 51 = .inl (cI, 8, .inl (fun _ => 0)) := (zent_int (by rfl)).trans rfl
theorem zE_52 (ad : Nat → Nat) (cI cC cS : ClassId) : zent ad cI cC cS zh0 52 = .inl (cI, 4, .inl zfb) := (zent_int (by rfl)).trans rfl
theorem zE_53 (ad : Nat → Nat) (cI cC cS : ClassId) : zent ad cI cC cS zh0 53 = .inr (1, [.int 0, .ref (ad 54), .ref (ad 55), .ref (ad 56)]) := (zent_obj (by rfl) (by decide)).trans rfl
theorem zE_54 (ad : Nat → Nat) (cI cC cS : ClassId) : zent ad cI cC cS zh0 54 = .inl (cI, 28, .inl (fun _ => 0)) := (zent_int (by rfl)).trans rfl
theorem zE_55 (ad : Nat → Nat) (cI cC cS : ClassId) : zent ad cI cC cS zh0 55 = .inl (cI, 28, .inl (fun _ => 0)) := (zent_int (by rfl)).trans rfl
theorem zE_56 (ad : Nat → Nat) (cI cC cS : ClassId) : zent ad cI cC cS zh0 56 = .inl (cI, 28, .inl (fun _ => 0)) := (zent_int (by rfl)).trans rfl
theorem zE_57 (ad : Nat → Nat) (cI cC cS : ClassId) : zent ad cI cC cS zh0 57 = .inr (0, [.int 0, .ref (ad 58), .int 0, .ref (ad 59), .ref (ad 60), .ref (ad 61)]) := (zent_obj (by rfl) (by decide)).trans rfl
theorem zE_58 (ad : Nat → Nat) (cI cC cS : ClassId) : zent ad cI cC cS zh0 58 = .inl (cC, 60, .inl (fun _ => 0)) := (zent_char (by rfl)).trans rfl
theorem zE_59 (ad : Nat → Nat) (cI cC cS : ClassId) : zent ad cI cC cS zh0 59 = .inl (cI, 16, .inl (fun _ => 0)) := (zent_int (by rfl)).trans rfl
theorem zE_60 (ad : Nat → Nat) (cI cC cS : ClassId) : zent ad cI cC cS zh0 60 = .inl (cI, 16, .inl (fun _ => 0)) := (zent_int (by rfl)).trans rfl
theorem zE_61 (ad : Nat → Nat) (cI cC cS : ClassId) : zent ad cI cC cS zh0 61 = .inl (cI, 16, .inl (fun _ => 0)) := (zent_int (by rfl)).trans rfl
theorem zE_62 (ad : Nat → Nat) (cI cC cS : ClassId) : zent ad cI cC cS zh0 62 = .inr (3, [.ref (ad 63), .ref (ad 72), .ref (ad 73), .ref (ad 74), .ref (ad 75), .int 0, .int 0]) := (zent_obj (by rfl) (by decide)).trans rfl
theorem zE_63 (ad : Nat → Nat) (cI cC cS : ClassId) : zent ad cI cC cS zh0 63 = .inr (4, [.int 0, .int 0, .int 0, .ref (ad 64), .ref (ad 65), .ref (ad 66), .ref (ad 67), .ref (ad 68)]) := (zent_obj (by rfl) (by decide)).trans rfl
theorem zE_64 (ad : Nat → Nat) (cI cC cS : ClassId) : zent ad cI cC cS zh0 64 = .inl (cI, 8, .inl (fun _ => 0)) := (zent_int (by rfl)).trans rfl
theorem zE_65 (ad : Nat → Nat) (cI cC cS : ClassId) : zent ad cI cC cS zh0 65 = .inl (cI, 8, .inl (fun _ => 0)) := (zent_int (by rfl)).trans rfl
theorem zE_66 (ad : Nat → Nat) (cI cC cS : ClassId) : zent ad cI cC cS zh0 66 = .inl (cI, 8, .inl (fun _ => 0)) := (zent_int (by rfl)).trans rfl
theorem zE_67 (ad : Nat → Nat) (cI cC cS : ClassId) : zent ad cI cC cS zh0 67 = .inl (cI, 4, .inl zfb) := (zent_int (by rfl)).trans rfl
theorem zE_68 (ad : Nat → Nat) (cI cC cS : ClassId) : zent ad cI cC cS zh0 68 = .inr (1, [.int 0, .ref (ad 69), .ref (ad 70), .ref (ad 71)]) := (zent_obj (by rfl) (by decide)).trans rfl
theorem zE_69 (ad : Nat → Nat) (cI cC cS : ClassId) : zent ad cI cC cS zh0 69 = .inl (cI, 28, .inl (fun _ => 0)) := (zent_int (by rfl)).trans rfl
theorem zE_70 (ad : Nat → Nat) (cI cC cS : ClassId) : zent ad cI cC cS zh0 70 = .inl (cI, 28, .inl (fun _ => 0)) := (zent_int (by rfl)).trans rfl
theorem zE_71 (ad : Nat → Nat) (cI cC cS : ClassId) : zent ad cI cC cS zh0 71 = .inl (cI, 28, .inl (fun _ => 0)) := (zent_int (by rfl)).trans rfl
theorem zE_72 (ad : Nat → Nat) (cI cC cS : ClassId) : zent ad cI cC cS zh0 72 = .inl (cI, 8, .inl (fun _ => 0)) := (zent_int (by rfl)).trans rfl
theorem zE_73 (ad : Nat → Nat) (cI cC cS : ClassId) : zent ad cI cC cS zh0 73 = .inl (cI, 8, .inl (fun _ => 0)) := (zent_int (by rfl)).trans rfl
theorem zE_74 (ad : Nat → Nat) (cI cC cS : ClassId) : zent ad cI cC cS zh0 74 = .inl (cI, 8, .inl (fun _ => 0)) := (zent_int (by rfl)).trans rfl
theorem zE_75 (ad : Nat → Nat) (cI cC cS : ClassId) : zent ad cI cC cS zh0 75 = .inl (cI, 8, .inl (fun _ => 0)) := (zent_int (by rfl)).trans rfl
theorem zE_76 (ad : Nat → Nat) (cI cC cS : ClassId) : zent ad cI cC cS zh0 76 = .inr (6, [.ref (ad 77), .ref (ad 78), .int 0, .ref (ad 79), .int 0, .ref (ad 80), .ref (ad 81), .ref (ad 82), .int 0, .int 0, .int 0, .int (-5), .int (-5), .int 0, .ref (ad 83), .int 0, .int 0, .int 0, .int 0]) := (zent_obj (by rfl) (by decide)).trans rfl
theorem zE_77 (ad : Nat → Nat) (cI cC cS : ClassId) : zent ad cI cC cS zh0 77 = .inl (cI, 150, .inl zmn) := (zent_int (by rfl)).trans rfl
theorem zE_78 (ad : Nat → Nat) (cI cC cS : ClassId) : zent ad cI cC cS zh0 78 = .inl (cI, 600, .inl (fun _ => 0)) := (zent_int (by rfl)).trans rfl
theorem zE_79 (ad : Nat → Nat) (cI cC cS : ClassId) : zent ad cI cC cS zh0 79 = .inl (cI, 150, .inl (fun _ => 0)) := (zent_int (by rfl)).trans rfl
theorem zE_80 (ad : Nat → Nat) (cI cC cS : ClassId) : zent ad cI cC cS zh0 80 = .inl (cI, 8, .inl (fun _ => 0)) := (zent_int (by rfl)).trans rfl
theorem zE_81 (ad : Nat → Nat) (cI cC cS : ClassId) : zent ad cI cC cS zh0 81 = .inl (cI, 8, .inl (fun _ => 0)) := (zent_int (by rfl)).trans rfl
theorem zE_82 (ad : Nat → Nat) (cI cC cS : ClassId) : zent ad cI cC cS zh0 82 = .inl (cI, 8, .inl (fun _ => 0)) := (zent_int (by rfl)).trans rfl
theorem zE_83 (ad : Nat → Nat) (cI cC cS : ClassId) : zent ad cI cC cS zh0 83 = .inl (cC, 60, .inl (fun _ => 0)) := (zent_char (by rfl)).trans rfl
set_option maxHeartbeats 4000000 in
set_option maxRecDepth 100000 in
theorem zw84_P {dC : Nat → ClassId} {dI : Nat → Nat → Nat} {cI cC cS : ClassId} {q0 : Nat} {a : Nat → Nat} {q1 : Nat} {a1 : Nat → Nat} {b : Nat} {H : Heap} (hP : va_P (dC, dI) zCl (zw84 cI cC cS q0 a q1 a1) H) : va_P (dC, dI) zCl (zWS (zad q0 a q1 a1 b) cI cC cS zh0) H := by
  rw [zfl_eq] at hP
  intro k q hq
  obtain ⟨hk, rfl⟩ := zWS_inv hq
  match k, hk with
  | 0, _ => rw [zE_0]; exact hP 0 _ rfl
  | 1, _ => rw [zE_1]; exact hP 1 _ rfl
  | 2, _ => rw [zE_2]; exact hP 2 _ rfl
  | 3, _ => rw [zE_3]; exact hP 3 _ rfl
  | 4, _ => rw [zE_4]; exact hP 4 _ rfl
  | 5, _ => rw [zE_5]; exact hP 5 _ rfl
  | 6, _ => rw [zE_6]; exact hP 6 _ rfl
  | 7, _ => rw [zE_7]; exact hP 7 _ rfl
  | 8, _ => rw [zE_8]; exact hP 8 _ rfl
  | 9, _ => rw [zE_9]; exact hP 9 _ rfl
  | 10, _ => rw [zE_10]; exact hP 10 _ rfl
  | 11, _ => rw [zE_11]; exact hP 11 _ rfl
  | 12, _ => rw [zE_12]; exact hP 12 _ rfl
  | 13, _ => rw [zE_13]; exact hP 13 _ rfl
  | 14, _ => rw [zE_14]; exact hP 14 _ rfl
  | 15, _ => rw [zE_15]; exact hP 15 _ rfl
  | 16, _ => rw [zE_16]; exact hP 16 _ rfl
  | 17, _ => rw [zE_17]; exact hP 17 _ rfl
  | 18, _ => rw [zE_18]; exact hP 18 _ rfl
  | 19, _ => rw [zE_19]; exact hP 19 _ rfl
  | 20, _ =>
    rw [zE_20]
    have h1 : H[a 20]? = some (vp_cell cS (4, .inr (.inr (.inr (.inr (zsx (fun k => a (19 + k)))))))) := hP 20 _ rfl
    have h2 : vp_cell cS (4, .inr (.inr (.inr (.inr (zsx (fun k => a (19 + k))))))) = vp_cell cS (4, .inr (.inr (.inr (.inr (fun j => some (zad q0 a q1 a1 b (zHR 20 j))))))) := by
      refine zarrQ (fun j hj => ?_)
      rcases (show j = 0 ∨ j = 1 ∨ j = 2 ∨ j = 3 by omega) with rfl | rfl | rfl | rfl <;> rfl
    exact h1.trans (congrArg some h2)
  | 21, _ => rw [zE_21]; exact hP 21 _ rfl
  | 22, _ => rw [zE_22]; exact hP 22 _ rfl
  | 23, _ => rw [zE_23]; exact hP 23 _ rfl
  | 24, _ => rw [zE_24]; exact hP 24 _ rfl
  | 25, _ => rw [zE_25]; exact hP 25 _ rfl
  | 26, _ => rw [zE_26]; exact hP 26 _ rfl
  | 27, _ => rw [zE_27]; exact hP 27 _ rfl
  | 28, _ => rw [zE_28]; exact hP 28 _ rfl
  | 29, _ => rw [zE_29]; exact hP 29 _ rfl
  | 30, _ => rw [zE_30]; exact hP 30 _ rfl
  | 31, _ => rw [zE_31]; exact hP 31 _ rfl
  | 32, _ => rw [zE_32]; exact hP 32 _ rfl
  | 33, _ => rw [zE_33]; exact hP 33 _ rfl
  | 34, _ => rw [zE_34]; exact hP 34 _ rfl
  | 35, _ => rw [zE_35]; exact hP 35 _ rfl
  | 36, _ => rw [zE_36]; exact hP 36 _ rfl
  | 37, _ => rw [zE_37]; exact hP 37 _ rfl
  | 38, _ => rw [zE_38]; exact hP 38 _ rfl
  | 39, _ => rw [zE_39]; exact hP 39 _ rfl
  | 40, _ => rw [zE_40]; exact hP 40 _ rfl
  | 41, _ => rw [zE_41]; exact hP 41 _ rfl
  | 42, _ => rw [zE_42]; exact hP 42 _ rfl
  | 43, _ => rw [zE_43]; exact hP 43 _ rfl
  | 44, _ => rw [zE_44]; exact hP 44 _ rfl
  | 45, _ => rw [zE_45]; exact hP 45 _ rfl
  | 46, _ => rw [zE_46]; exact hP 46 _ rfl
  | 47, _ => rw [zE_47]; exact hP 47 _ rfl
  | 48, _ => rw [zE_48]; exact hP 48 _ rfl
  | 49, _ => rw [zE_49]; exact hP 49 _ rfl
  | 50, _ => rw [zE_50]; exact hP 50 _ rfl
  | 51, _ => rw [zE_51]; exact hP 51 _ rfl
  | 52, _ => rw [zE_52]; exact hP 52 _ rfl
  | 53, _ => rw [zE_53]; exact hP 53 _ rfl
  | 54, _ => rw [zE_54]; exact hP 54 _ rfl
  | 55, _ => rw [zE_55]; exact hP 55 _ rfl
  | 56, _ => rw [zE_56]; exact hP 56 _ rfl
  | 57, _ => rw [zE_57]; exact hP 57 _ rfl
  | 58, _ => rw [zE_58]; exact hP 58 _ rfl
  | 59, _ => rw [zE_59]; exact hP 59 _ rfl
  | 60, _ => rw [zE_60]; exact hP 60 _ rfl
  | 61, _ => rw [zE_61]; exact hP 61 _ rfl
  | 62, _ => rw [zE_62]; exact hP 62 _ rfl
  | 63, _ => rw [zE_63]; exact hP 63 _ rfl
  | 64, _ => rw [zE_64]; exact hP 64 _ rfl
  | 65, _ => rw [zE_65]; exact hP 65 _ rfl
  | 66, _ => rw [zE_66]; exact hP 66 _ rfl
  | 67, _ => rw [zE_67]; exact hP 67 _ rfl
  | 68, _ => rw [zE_68]; exact hP 68 _ rfl
  | 69, _ => rw [zE_69]; exact hP 69 _ rfl
  | 70, _ => rw [zE_70]; exact hP 70 _ rfl
  | 71, _ => rw [zE_71]; exact hP 71 _ rfl
  | 72, _ => rw [zE_72]; exact hP 72 _ rfl
  | 73, _ => rw [zE_73]; exact hP 73 _ rfl
  | 74, _ => rw [zE_74]; exact hP 74 _ rfl
  | 75, _ => rw [zE_75]; exact hP 75 _ rfl
  | 76, _ => rw [zE_76]; exact hP 76 _ rfl
  | 77, _ => rw [zE_77]; exact hP 77 _ rfl
  | 78, _ => rw [zE_78]; exact hP 78 _ rfl
  | 79, _ => rw [zE_79]; exact hP 79 _ rfl
  | 80, _ => rw [zE_80]; exact hP 80 _ rfl
  | 81, _ => rw [zE_81]; exact hP 81 _ rfl
  | 82, _ => rw [zE_82]; exact hP 82 _ rfl
  | 83, _ => rw [zE_83]; exact hP 83 _ rfl
theorem zad_ap {cI cC cS : ClassId} {q0 : Nat} {a : Nat → Nat} {q1 : Nat} {a1 : Nat → Nat} {b : Nat} {A : Nat → Prop} (hD : va_D A (zw84 cI cC cS q0 a q1 a1)) : zap (zad q0 a q1 a1 b) ∧ ∀ k, k < 84 → A (zad q0 a q1 a1 b k) := by
  have key : ∀ k, k < 84 → ∃ e, (zw84 cI cC cS q0 a q1 a1)[k]? = some (zad q0 a q1 a1 b k, e) := by
    rw [zfl_eq]
    intro k hk
    match k, hk with
    | 0, _ => exact ⟨_, rfl⟩
    | 1, _ => exact ⟨_, rfl⟩
    | 2, _ => exact ⟨_, rfl⟩
    | 3, _ => exact ⟨_, rfl⟩
    | 4, _ => exact ⟨_, rfl⟩
    | 5, _ => exact ⟨_, rfl⟩
    | 6, _ => exact ⟨_, rfl⟩
    | 7, _ => exact ⟨_, rfl⟩
    | 8, _ => exact ⟨_, rfl⟩
    | 9, _ => exact ⟨_, rfl⟩
    | 10, _ => exact ⟨_, rfl⟩
    | 11, _ => exact ⟨_, rfl⟩
    | 12, _ => exact ⟨_, rfl⟩
    | 13, _ => exact ⟨_, rfl⟩
    | 14, _ => exact ⟨_, rfl⟩
    | 15, _ => exact ⟨_, rfl⟩
    | 16, _ => exact ⟨_, rfl⟩
    | 17, _ => exact ⟨_, rfl⟩
    | 18, _ => exact ⟨_, rfl⟩
    | 19, _ => exact ⟨_, rfl⟩
    | 20, _ => exact ⟨_, rfl⟩
    | 21, _ => exact ⟨_, rfl⟩
    | 22, _ => exact ⟨_, rfl⟩
    | 23, _ => exact ⟨_, rfl⟩
    | 24, _ => exact ⟨_, rfl⟩
    | 25, _ => exact ⟨_, rfl⟩
    | 26, _ => exact ⟨_, rfl⟩
    | 27, _ => exact ⟨_, rfl⟩
    | 28, _ => exact ⟨_, rfl⟩
    | 29, _ => exact ⟨_, rfl⟩
    | 30, _ => exact ⟨_, rfl⟩
    | 31, _ => exact ⟨_, rfl⟩
    | 32, _ => exact ⟨_, rfl⟩
    | 33, _ => exact ⟨_, rfl⟩
    | 34, _ => exact ⟨_, rfl⟩
    | 35, _ => exact ⟨_, rfl⟩
    | 36, _ => exact ⟨_, rfl⟩
    | 37, _ => exact ⟨_, rfl⟩
    | 38, _ => exact ⟨_, rfl⟩
    | 39, _ => exact ⟨_, rfl⟩
    | 40, _ => exact ⟨_, rfl⟩
    | 41, _ => exact ⟨_, rfl⟩
    | 42, _ => exact ⟨_, rfl⟩
    | 43, _ => exact ⟨_, rfl⟩
    | 44, _ => exact ⟨_, rfl⟩
    | 45, _ => exact ⟨_, rfl⟩
    | 46, _ => exact ⟨_, rfl⟩
    | 47, _ => exact ⟨_, rfl⟩
    | 48, _ => exact ⟨_, rfl⟩
    | 49, _ => exact ⟨_, rfl⟩
    | 50, _ => exact ⟨_, rfl⟩
    | 51, _ => exact ⟨_, rfl⟩
    | 52, _ => exact ⟨_, rfl⟩
    | 53, _ => exact ⟨_, rfl⟩
    | 54, _ => exact ⟨_, rfl⟩
    | 55, _ => exact ⟨_, rfl⟩
    | 56, _ => exact ⟨_, rfl⟩
    | 57, _ => exact ⟨_, rfl⟩
    | 58, _ => exact ⟨_, rfl⟩
    | 59, _ => exact ⟨_, rfl⟩
    | 60, _ => exact ⟨_, rfl⟩
    | 61, _ => exact ⟨_, rfl⟩
    | 62, _ => exact ⟨_, rfl⟩
    | 63, _ => exact ⟨_, rfl⟩
    | 64, _ => exact ⟨_, rfl⟩
    | 65, _ => exact ⟨_, rfl⟩
    | 66, _ => exact ⟨_, rfl⟩
    | 67, _ => exact ⟨_, rfl⟩
    | 68, _ => exact ⟨_, rfl⟩
    | 69, _ => exact ⟨_, rfl⟩
    | 70, _ => exact ⟨_, rfl⟩
    | 71, _ => exact ⟨_, rfl⟩
    | 72, _ => exact ⟨_, rfl⟩
    | 73, _ => exact ⟨_, rfl⟩
    | 74, _ => exact ⟨_, rfl⟩
    | 75, _ => exact ⟨_, rfl⟩
    | 76, _ => exact ⟨_, rfl⟩
    | 77, _ => exact ⟨_, rfl⟩
    | 78, _ => exact ⟨_, rfl⟩
    | 79, _ => exact ⟨_, rfl⟩
    | 80, _ => exact ⟨_, rfl⟩
    | 81, _ => exact ⟨_, rfl⟩
    | 82, _ => exact ⟨_, rfl⟩
    | 83, _ => exact ⟨_, rfl⟩
    | k + 84, hk => exact absurd hk (by omega)
  refine ⟨fun i j hi hj he => ?_, fun k hk => ?_⟩
  · obtain ⟨e1, h1⟩ := key i hi
    obtain ⟨e2, h2⟩ := key j hj
    exact hD.1 i j _ _ h1 h2 he
  · obtain ⟨e1, h1⟩ := key k hk
    exact hD.2 k _ h1
