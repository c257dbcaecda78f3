/-! the makers, walked by program -/
set_option maxRecDepth 40000 in
theorem zaI : Jvm.Cond.arrayClass .int ∈ zbw := zin 92 rfl rfl
set_option maxRecDepth 40000 in
theorem zaC : Jvm.Cond.arrayClass .char ∈ zbw := zin 180 rfl rfl
set_option maxRecDepth 40000 in
theorem zoi_i : Jvm.Cond.instanceMethod objectInit ∈ zbw := zin 58 rfl rfl
set_option maxRecDepth 40000 in
theorem zoi_c : Jvm.Cond.code objectInit ⟨#[0xb1]⟩ 1 none ∈ zbw := zin 59 rfl rfl
def zw_B (cI : ClassId) (h : Nat) (a : Nat → Nat) : va_W := [(h, .inr (1, [.int 0, .ref (a 1), .ref (a 2), .ref (a 3)])), (a 1, .inl (cI, 28, .inl (fun _ => 0))), (a 2, .inl (cI, 28, .inl (fun _ => 0))), (a 3, .inl (cI, 28, .inl (fun _ => 0)))]
def zfb : Nat → Int32 := upd (upd (upd (upd (fun _ => 0) 0 1) 1 2) 2 4) 3 8
def zw_S (cI : ClassId) (h : Nat) (a : Nat → Nat) : va_W := [(h, .inr (4, [.int 0, .int 0, .int 0, .ref (a 1), .ref (a 2), .ref (a 3), .ref (a 4), .ref (a 5)])), (a 1, .inl (cI, 8, .inl (fun _ => 0))), (a 2, .inl (cI, 8, .inl (fun _ => 0))), (a 3, .inl (cI, 8, .inl (fun _ => 0))), (a 4, .inl (cI, 4, .inl zfb)), (a 5, .inr (1, [.int 0, .ref (a 6), .ref (a 7), .ref (a 8)])), (a 6, .inl (cI, 28, .inl (fun _ => 0))), (a 7, .inl (cI, 28, .inl (fun _ => 0))), (a 8, .inl (cI, 28, .inl (fun _ => 0)))]
def zsx (a : Nat → Nat) : Nat → Option Nat := va_up (va_up (va_up (va_up (fun _ => none) 0 (some (a 2))) 1 (some (a 11))) 2 (some (a 20))) 3 (some (a 29))
def zw_H (cI cS : ClassId) (h : Nat) (a : Nat → Nat) : va_W := [(h, .inr (2, [.int 0, .int 0, .ref (a 1)])), (a 1, .inl (cS, 4, .inr (.inr (.inr (.inr (zsx a))))))] ++ zw_S cI (a 2) (fun k => a (2 + k)) ++ zw_S cI (a 11) (fun k => a (11 + k)) ++ zw_S cI (a 20) (fun k => a (20 + k)) ++ zw_S cI (a 29) (fun k => a (29 + k))
def zw_T (cI cC : ClassId) (h : Nat) (a : Nat → Nat) : va_W := [(h, .inr (0, [.int 0, .ref (a 1), .int 0, .ref (a 2), .ref (a 3), .ref (a 4)])), (a 1, .inl (cC, 60, .inl (fun _ => 0))), (a 2, .inl (cI, 16, .inl (fun _ => 0))), (a 3, .inl (cI, 16, .inl (fun _ => 0))), (a 4, .inl (cI, 16, .inl (fun _ => 0)))]
def zw_R (cI : ClassId) (h : Nat) (a : Nat → Nat) : va_W := [(h, .inr (3, [.ref (a 1), .ref (a 10), .ref (a 11), .ref (a 12), .ref (a 13), .int 0, .int 0]))] ++ zw_S cI (a 1) (fun k => a (1 + k)) ++ [(a 10, .inl (cI, 8, .inl (fun _ => 0))), (a 11, .inl (cI, 8, .inl (fun _ => 0))), (a 12, .inl (cI, 8, .inl (fun _ => 0))), (a 13, .inl (cI, 8, .inl (fun _ => 0)))]
def zw_P (cI cC cS : ClassId) (h : Nat) (a : Nat → Nat) : va_W := [(h, .inr (5, [.ref (a 1), .ref (a 10), .int 0, .ref (a 19), .ref (a 57), .ref (a 62)]))] ++ zw_S cI (a 1) (fun k => a (1 + k)) ++ zw_S cI (a 10) (fun k => a (10 + k)) ++ zw_H cI cS (a 19) (fun k => a (19 + k)) ++ zw_T cI cC (a 57) (fun k => a (57 + k)) ++ zw_R cI (a 62) (fun k => a (62 + k))
def zmn : Nat → Int32 := upd (upd (upd (upd (fun _ => 0) 133 1) 138 1) 143 1) 148 1
def zw_M (cI cC : ClassId) (h : Nat) (a : Nat → Nat) : va_W := [(h, .inr (6, [.ref (a 1), .ref (a 2), .int 0, .ref (a 3), .int 0, .ref (a 4), .ref (a 5), .ref (a 6), .int 0, .int 0, .int 0, .int (-5), .int (-5), .int 0, .ref (a 7), .int 0, .int 0, .int 0, .int 0])), (a 1, .inl (cI, 150, .inl zmn)), (a 2, .inl (cI, 600, .inl (fun _ => 0))), (a 3, .inl (cI, 150, .inl (fun _ => 0))), (a 4, .inl (cI, 8, .inl (fun _ => 0))), (a 5, .inl (cI, 8, .inl (fun _ => 0))), (a 6, .inl (cI, 8, .inl (fun _ => 0))), (a 7, .inl (cC, 60, .inl (fun _ => 0)))]
theorem zdi_1_0 : decode prog_3_method_1_code 0 = .ok (.aload_n 0, 1) := by decide +kernel
theorem zdi_1_1 : decode prog_3_method_1_code 1 = .ok (.invokespecial 3, 3) := by decide +kernel
theorem zdi_1_4 : decode prog_3_method_1_code 4 = .ok (.aload_n 0, 1) := by decide +kernel
theorem zdi_1_5 : decode prog_3_method_1_code 5 = .ok (.iconst 0, 1) := by decide +kernel
theorem zdi_1_6 : decode prog_3_method_1_code 6 = .ok (.putfield 9, 3) := by decide +kernel
theorem zdi_1_9 : decode prog_3_method_1_code 9 = .ok (.aload_n 0, 1) := by decide +kernel
theorem zdi_1_10 : decode prog_3_method_1_code 10 = .ok (.bipush 28, 2) := by decide +kernel
theorem zdi_1_12 : decode prog_3_method_1_code 12 = .ok (.newarray .int, 2) := by decide +kernel
theorem zdi_1_14 : decode prog_3_method_1_code 14 = .ok (.putfield 15, 3) := by decide +kernel
theorem zdi_1_17 : decode prog_3_method_1_code 17 = .ok (.aload_n 0, 1) := by decide +kernel
theorem zdi_1_18 : decode prog_3_method_1_code 18 = .ok (.bipush 28, 2) := by decide +kernel
theorem zdi_1_20 : decode prog_3_method_1_code 20 = .ok (.newarray .int, 2) := by decide +kernel
theorem zdi_1_22 : decode prog_3_method_1_code 22 = .ok (.putfield 19, 3) := by decide +kernel
theorem zdi_1_25 : decode prog_3_method_1_code 25 = .ok (.aload_n 0, 1) := by decide +kernel
theorem zdi_1_26 : decode prog_3_method_1_code 26 = .ok (.bipush 28, 2) := by decide +kernel
theorem zdi_1_28 : decode prog_3_method_1_code 28 = .ok (.newarray .int, 2) := by decide +kernel
theorem zdi_1_30 : decode prog_3_method_1_code 30 = .ok (.putfield 22, 3) := by decide +kernel
theorem zdi_1_33 : decode prog_3_method_1_code 33 = .ok (.return_, 1) := by decide +kernel
set_option maxHeartbeats 4000000 in
set_option maxRecDepth 100000 in
theorem zk_1 (l : Launch) (dC : Nat → ClassId) (dI : Nat → Nat → Nat) (cI cC cS : ClassId) : zKC l dC dI cI cC cS ⟨zR1, "<init>", "()V"⟩ prog_3_method_1_code 1 { frames := 2, cells := 3, slots := 84, locals := 120 } 3 84 1 [.int 0, .null, .null, .null] (zw_B cI) := by
  refine zk_met (by decide +kernel) rfl (by decide) ?_
  intro h0 p e s m args below meth c A ls Q F hl hP hD hend
  obtain ⟨hx, hb, hml, hown, hts, hK, hNE, hA, hlocks, hret, hnm⟩ := id F
  have hS : va_S A s.heap s.heap [] := va_S.rf
  refine lv_aload_n hx hb zdi_1_0 rfl (lv_at hl 0 rfl) ?_
  refine W.objInit hx hb hown (hts _ (zin 71 rfl rfl)) (hts _ zoi_i) (hts _ zoi_c) rfl (by rw [hml]; exact hl.1) rfl zdi_1_1 (Nat.le_of_ble_eq_true rfl) (Nat.le_of_ble_eq_true rfl) ?_
  refine W.eq (g2 := F0 m 4 ls []) rfl ?_
  refine lv_aload_n hx hb zdi_1_4 rfl (lv_at hl 0 rfl) ?_
  refine lv_iconst (v := 0) hx hb zdi_1_5 (by decide) ?_
  refine zk_put (ci := 1) (k := 0) (fs' := [.int 0, .null, .null, .null]) ⟨hx, hb⟩ hown hts hK (by decide) (by decide) hP hD hS (zin 72 rfl rfl) (Or.inl rfl) rfl rfl (Nat.le_of_ble_eq_true rfl) rfl zdi_1_6 (fun H locs hP hD hS => ?_)
  have hP : va_P (dC, dI) zCl ([(h0, .inr (1, [.int 0, .null, .null, .null]))]) H := hP
  have hD : va_D A ([(h0, .inr (1, [.int 0, .null, .null, .null]))]) := hD
  refine lv_aload_n hx hb zdi_1_9 rfl (lv_at hl 0 rfl) ?_
  refine lv_bipush (v := 28) hx hb zdi_1_10 (by decide) ?_
  refine zk_newI ⟨hx, hb⟩ (hts _ zaI) hK hA hP hD hS (N := 28) (by decide) (by decide) (Nat.le_of_ble_eq_true rfl) (Nat.le_of_ble_eq_true rfl) (Nat.le_of_ble_eq_true rfl) zdi_1_12 (fun q0 H hP hD hS => ?_)
  refine W.widen (k := 1) (n := 28) (by omega) (by omega) ?_
  have hP : va_P (dC, dI) zCl ([(h0, .inr (1, [.int 0, .null, .null, .null])), (q0, .inl (cI, 28, .inl (fun _ => 0)))]) H := hP
  have hD : va_D A ([(h0, .inr (1, [.int 0, .null, .null, .null])), (q0, .inl (cI, 28, .inl (fun _ => 0)))]) := hD
  refine zk_put (ci := 1) (k := 1) (fs' := [.int 0, .ref q0, .null, .null]) ⟨hx, hb⟩ hown hts hK (by decide) (by decide) hP hD hS (zin 75 rfl rfl) (Or.inr ⟨rfl, hnm, rfl⟩) rfl rfl (Nat.le_of_ble_eq_true rfl) rfl zdi_1_14 (fun H locs hP hD hS => ?_)
  have hP : va_P (dC, dI) zCl ([(h0, .inr (1, [.int 0, .ref q0, .null, .null])), (q0, .inl (cI, 28, .inl (fun _ => 0)))]) H := hP
  have hD : va_D A ([(h0, .inr (1, [.int 0, .ref q0, .null, .null])), (q0, .inl (cI, 28, .inl (fun _ => 0)))]) := hD
  refine lv_aload_n hx hb zdi_1_17 rfl (lv_at hl 0 rfl) ?_
  refine lv_bipush (v := 28) hx hb zdi_1_18 (by decide) ?_
  refine zk_newI ⟨hx, hb⟩ (hts _ zaI) hK hA hP hD hS (N := 28) (by decide) (by decide) (Nat.le_of_ble_eq_true rfl) (Nat.le_of_ble_eq_true rfl) (Nat.le_of_ble_eq_true rfl) zdi_1_20 (fun q1 H hP hD hS => ?_)
  refine W.widen (k := 2) (n := 56) (by omega) (by omega) ?_
  have hP : va_P (dC, dI) zCl ([(h0, .inr (1, [.int 0, .ref q0, .null, .null])), (q0, .inl (cI, 28, .inl (fun _ => 0))), (q1, .inl (cI, 28, .inl (fun _ => 0)))]) H := hP
  have hD : va_D A ([(h0, .inr (1, [.int 0, .ref q0, .null, .null])), (q0, .inl (cI, 28, .inl (fun _ => 0))), (q1, .inl (cI, 28, .inl (fun _ => 0)))]) := hD
  refine zk_put (ci := 1) (k := 2) (fs' := [.int 0, .ref q0, .ref q1, .null]) ⟨hx, hb⟩ hown hts hK (by decide) (by decide) hP hD hS (zin 78 rfl rfl) (Or.inr ⟨rfl, hnm, rfl⟩) rfl rfl (Nat.le_of_ble_eq_true rfl) rfl zdi_1_22 (fun H locs hP hD hS => ?_)
  have hP : va_P (dC, dI) zCl ([(h0, .inr (1, [.int 0, .ref q0, .ref q1, .null])), (q0, .inl (cI, 28, .inl (fun _ => 0))), (q1, .inl (cI, 28, .inl (fun _ => 0)))]) H := hP
  have hD : va_D A ([(h0, .inr (1, [.int 0, .ref q0, .ref q1, .null])), (q0, .inl (cI, 28, .inl (fun _ => 0))), (q1, .inl (cI, 28, .inl (fun _ => 0)))]) := hD
  refine lv_aload_n hx hb zdi_1_25 rfl (lv_at hl 0 rfl) ?_
  refine lv_bipush (v := 28) hx hb zdi_1_26 (by decide) ?_
  refine zk_newI ⟨hx, hb⟩ (hts _ zaI) hK hA hP hD hS (N := 28) (by decide) (by decide) (Nat.le_of_ble_eq_true rfl) (Nat.le_of_ble_eq_true rfl) (Nat.le_of_ble_eq_true rfl) zdi_1_28 (fun q2 H hP hD hS => ?_)
  refine W.widen (k := 3) (n := 84) (by omega) (by omega) ?_
  have hP : va_P (dC, dI) zCl ([(h0, .inr (1, [.int 0, .ref q0, .ref q1, .null])), (q0, .inl (cI, 28, .inl (fun _ => 0))), (q1, .inl (cI, 28, .inl (fun _ => 0))), (q2, .inl (cI, 28, .inl (fun _ => 0)))]) H := hP
  have hD : va_D A ([(h0, .inr (1, [.int 0, .ref q0, .ref q1, .null])), (q0, .inl (cI, 28, .inl (fun _ => 0))), (q1, .inl (cI, 28, .inl (fun _ => 0))), (q2, .inl (cI, 28, .inl (fun _ => 0)))]) := hD
  refine zk_put (ci := 1) (k := 3) (fs' := [.int 0, .ref q0, .ref q1, .ref q2]) ⟨hx, hb⟩ hown hts hK (by decide) (by decide) hP hD hS (zin 81 rfl rfl) (Or.inr ⟨rfl, hnm, rfl⟩) rfl rfl (Nat.le_of_ble_eq_true rfl) rfl zdi_1_30 (fun H locs hP hD hS => ?_)
  have hP : va_P (dC, dI) zCl ([(h0, .inr (1, [.int 0, .ref q0, .ref q1, .ref q2])), (q0, .inl (cI, 28, .inl (fun _ => 0))), (q1, .inl (cI, 28, .inl (fun _ => 0))), (q2, .inl (cI, 28, .inl (fun _ => 0)))]) H := hP
  have hD : va_D A ([(h0, .inr (1, [.int 0, .ref q0, .ref q1, .ref q2])), (q0, .inl (cI, 28, .inl (fun _ => 0))), (q1, .inl (cI, 28, .inl (fun _ => 0))), (q2, .inl (cI, 28, .inl (fun _ => 0)))]) := hD
  refine W.widen (k := 3) (n := 84) (by omega) (by omega) ?_
  exact hend (fun k => [0, q0, q1, q2].getD k 0) 33 H locs ls zdi_1_33 hP hD hS
theorem zdi_4_0 : decode prog_6_method_1_code 0 = .ok (.aload_n 0, 1) := by decide +kernel
theorem zdi_4_1 : decode prog_6_method_1_code 1 = .ok (.invokespecial 3, 3) := by decide +kernel
theorem zdi_4_4 : decode prog_6_method_1_code 4 = .ok (.aload_n 0, 1) := by decide +kernel
theorem zdi_4_5 : decode prog_6_method_1_code 5 = .ok (.iconst 0, 1) := by decide +kernel
theorem zdi_4_6 : decode prog_6_method_1_code 6 = .ok (.putfield 9, 3) := by decide +kernel
theorem zdi_4_9 : decode prog_6_method_1_code 9 = .ok (.aload_n 0, 1) := by decide +kernel
theorem zdi_4_10 : decode prog_6_method_1_code 10 = .ok (.iconst 0, 1) := by decide +kernel
theorem zdi_4_11 : decode prog_6_method_1_code 11 = .ok (.putfield 15, 3) := by decide +kernel
theorem zdi_4_14 : decode prog_6_method_1_code 14 = .ok (.aload_n 0, 1) := by decide +kernel
theorem zdi_4_15 : decode prog_6_method_1_code 15 = .ok (.iconst 0, 1) := by decide +kernel
theorem zdi_4_16 : decode prog_6_method_1_code 16 = .ok (.putfield 18, 3) := by decide +kernel
theorem zdi_4_19 : decode prog_6_method_1_code 19 = .ok (.aload_n 0, 1) := by decide +kernel
theorem zdi_4_20 : decode prog_6_method_1_code 20 = .ok (.bipush 8, 2) := by decide +kernel
theorem zdi_4_22 : decode prog_6_method_1_code 22 = .ok (.newarray .int, 2) := by decide +kernel
theorem zdi_4_24 : decode prog_6_method_1_code 24 = .ok (.putfield 21, 3) := by decide +kernel
theorem zdi_4_27 : decode prog_6_method_1_code 27 = .ok (.aload_n 0, 1) := by decide +kernel
theorem zdi_4_28 : decode prog_6_method_1_code 28 = .ok (.bipush 8, 2) := by decide +kernel
theorem zdi_4_30 : decode prog_6_method_1_code 30 = .ok (.newarray .int, 2) := by decide +kernel
theorem zdi_4_32 : decode prog_6_method_1_code 32 = .ok (.putfield 25, 3) := by decide +kernel
theorem zdi_4_35 : decode prog_6_method_1_code 35 = .ok (.aload_n 0, 1) := by decide +kernel
theorem zdi_4_36 : decode prog_6_method_1_code 36 = .ok (.bipush 8, 2) := by decide +kernel
theorem zdi_4_38 : decode prog_6_method_1_code 38 = .ok (.newarray .int, 2) := by decide +kernel
theorem zdi_4_40 : decode prog_6_method_1_code 40 = .ok (.putfield 28, 3) := by decide +kernel
theorem zdi_4_43 : decode prog_6_method_1_code 43 = .ok (.aload_n 0, 1) := by decide +kernel
theorem zdi_4_44 : decode prog_6_method_1_code 44 = .ok (.iconst 4, 1) := by decide +kernel
theorem zdi_4_45 : decode prog_6_method_1_code 45 = .ok (.newarray .int, 2) := by decide +kernel
theorem zdi_4_47 : decode prog_6_method_1_code 47 = .ok (.putfield 31, 3) := by decide +kernel
theorem zdi_4_50 : decode prog_6_method_1_code 50 = .ok (.aload_n 0, 1) := by decide +kernel
theorem zdi_4_51 : decode prog_6_method_1_code 51 = .ok (.new 34, 3) := by decide +kernel
theorem zdi_4_54 : decode prog_6_method_1_code 54 = .ok (.dup, 1) := by decide +kernel
theorem zdi_4_55 : decode prog_6_method_1_code 55 = .ok (.invokespecial 36, 3) := by decide +kernel
theorem zdi_4_58 : decode prog_6_method_1_code 58 = .ok (.putfield 37, 3) := by decide +kernel
theorem zdi_4_61 : decode prog_6_method_1_code 61 = .ok (.iconst 0, 1) := by decide +kernel
theorem zdi_4_62 : decode prog_6_method_1_code 62 = .ok (.istore_n 1, 1) := by decide +kernel
theorem zdi_4_63 : decode prog_6_method_1_code 63 = .ok (.iload_n 1, 1) := by decide +kernel
theorem zdi_4_64 : decode prog_6_method_1_code 64 = .ok (.iconst 4, 1) := by decide +kernel
theorem zdi_4_65 : decode prog_6_method_1_code 65 = .ok (.if_icmp .ge 18, 3) := by decide +kernel
theorem zdi_4_68 : decode prog_6_method_1_code 68 = .ok (.aload_n 0, 1) := by decide +kernel
theorem zdi_4_69 : decode prog_6_method_1_code 69 = .ok (.getfield 31, 3) := by decide +kernel
theorem zdi_4_72 : decode prog_6_method_1_code 72 = .ok (.iload_n 1, 1) := by decide +kernel
theorem zdi_4_73 : decode prog_6_method_1_code 73 = .ok (.iconst 1, 1) := by decide +kernel
theorem zdi_4_74 : decode prog_6_method_1_code 74 = .ok (.iload_n 1, 1) := by decide +kernel
theorem zdi_4_75 : decode prog_6_method_1_code 75 = .ok (.ishl, 1) := by decide +kernel
theorem zdi_4_76 : decode prog_6_method_1_code 76 = .ok (.iastore, 1) := by decide +kernel
theorem zdi_4_77 : decode prog_6_method_1_code 77 = .ok (.iinc 1 1, 3) := by decide +kernel
theorem zdi_4_80 : decode prog_6_method_1_code 80 = .ok (.goto (-17), 3) := by decide +kernel
theorem zdi_4_83 : decode prog_6_method_1_code 83 = .ok (.return_, 1) := by decide +kernel
set_option maxHeartbeats 4000000 in
set_option maxRecDepth 100000 in
theorem zk_4 (l : Launch) (dC : Nat → ClassId) (dI : Nat → Nat → Nat) (cI cC cS : ClassId) : zKC l dC dI cI cC cS ⟨zR4, "<init>", "()V"⟩ prog_6_method_1_code 2 { frames := 3, cells := 8, slots := 116, locals := 180 } 8 116 4 [.int 0, .int 0, .int 0, .null, .null, .null, .null, .null] (zw_S cI) := by
  refine zk_met (by decide +kernel) rfl (by decide) ?_
  intro h0 p e s m args below meth c A ls Q F hl hP hD hend
  obtain ⟨hx, hb, hml, hown, hts, hK, hNE, hA, hlocks, hret, hnm⟩ := id F
  have hS : va_S A s.heap s.heap [] := va_S.rf
  refine lv_aload_n hx hb zdi_4_0 rfl (lv_at hl 0 rfl) ?_
  refine W.objInit hx hb hown (hts _ (zin 65 rfl rfl)) (hts _ zoi_i) (hts _ zoi_c) rfl (by rw [hml]; exact hl.1) rfl zdi_4_1 (Nat.le_of_ble_eq_true rfl) (Nat.le_of_ble_eq_true rfl) ?_
  refine W.eq (g2 := F0 m 4 ls []) rfl ?_
  refine lv_aload_n hx hb zdi_4_4 rfl (lv_at hl 0 rfl) ?_
  refine lv_iconst (v := 0) hx hb zdi_4_5 (by decide) ?_
  refine zk_put (ci := 4) (k := 0) (fs' := [.int 0, .int 0, .int 0, .null, .null, .null, .null, .null]) ⟨hx, hb⟩ hown hts hK (by decide) (by decide) hP hD hS (zin 93 rfl rfl) (Or.inl rfl) rfl rfl (Nat.le_of_ble_eq_true rfl) rfl zdi_4_6 (fun H locs hP hD hS => ?_)
  have hP : va_P (dC, dI) zCl ([(h0, .inr (4, [.int 0, .int 0, .int 0, .null, .null, .null, .null, .null]))]) H := hP
  have hD : va_D A ([(h0, .inr (4, [.int 0, .int 0, .int 0, .null, .null, .null, .null, .null]))]) := hD
  refine lv_aload_n hx hb zdi_4_9 rfl (lv_at hl 0 rfl) ?_
  refine lv_iconst (v := 0) hx hb zdi_4_10 (by decide) ?_
  refine zk_put (ci := 4) (k := 1) (fs' := [.int 0, .int 0, .int 0, .null, .null, .null, .null, .null]) ⟨hx, hb⟩ hown hts hK (by decide) (by decide) hP hD hS (zin 95 rfl rfl) (Or.inl rfl) rfl rfl (Nat.le_of_ble_eq_true rfl) rfl zdi_4_11 (fun H locs hP hD hS => ?_)
  have hP : va_P (dC, dI) zCl ([(h0, .inr (4, [.int 0, .int 0, .int 0, .null, .null, .null, .null, .null]))]) H := hP
  have hD : va_D A ([(h0, .inr (4, [.int 0, .int 0, .int 0, .null, .null, .null, .null, .null]))]) := hD
  refine lv_aload_n hx hb zdi_4_14 rfl (lv_at hl 0 rfl) ?_
  refine lv_iconst (v := 0) hx hb zdi_4_15 (by decide) ?_
  refine zk_put (ci := 4) (k := 2) (fs' := [.int 0, .int 0, .int 0, .null, .null, .null, .null, .null]) ⟨hx, hb⟩ hown hts hK (by decide) (by decide) hP hD hS (zin 97 rfl rfl) (Or.inl rfl) rfl rfl (Nat.le_of_ble_eq_true rfl) rfl zdi_4_16 (fun H locs hP hD hS => ?_)
  have hP : va_P (dC, dI) zCl ([(h0, .inr (4, [.int 0, .int 0, .int 0, .null, .null, .null, .null, .null]))]) H := hP
  have hD : va_D A ([(h0, .inr (4, [.int 0, .int 0, .int 0, .null, .null, .null, .null, .null]))]) := hD
  refine lv_aload_n hx hb zdi_4_19 rfl (lv_at hl 0 rfl) ?_
  refine lv_bipush (v := 8) hx hb zdi_4_20 (by decide) ?_
  refine zk_newI ⟨hx, hb⟩ (hts _ zaI) hK hA hP hD hS (N := 8) (by decide) (by decide) (Nat.le_of_ble_eq_true rfl) (Nat.le_of_ble_eq_true rfl) (Nat.le_of_ble_eq_true rfl) zdi_4_22 (fun q0 H hP hD hS => ?_)
  refine W.widen (k := 1) (n := 8) (by omega) (by omega) ?_
  have hP : va_P (dC, dI) zCl ([(h0, .inr (4, [.int 0, .int 0, .int 0, .null, .null, .null, .null, .null])), (q0, .inl (cI, 8, .inl (fun _ => 0)))]) H := hP
  have hD : va_D A ([(h0, .inr (4, [.int 0, .int 0, .int 0, .null, .null, .null, .null, .null])), (q0, .inl (cI, 8, .inl (fun _ => 0)))]) := hD
  refine zk_put (ci := 4) (k := 3) (fs' := [.int 0, .int 0, .int 0, .ref q0, .null, .null, .null, .null]) ⟨hx, hb⟩ hown hts hK (by decide) (by decide) hP hD hS (zin 99 rfl rfl) (Or.inr ⟨rfl, hnm, rfl⟩) rfl rfl (Nat.le_of_ble_eq_true rfl) rfl zdi_4_24 (fun H locs hP hD hS => ?_)
  have hP : va_P (dC, dI) zCl ([(h0, .inr (4, [.int 0, .int 0, .int 0, .ref q0, .null, .null, .null, .null])), (q0, .inl (cI, 8, .inl (fun _ => 0)))]) H := hP
  have hD : va_D A ([(h0, .inr (4, [.int 0, .int 0, .int 0, .ref q0, .null, .null, .null, .null])), (q0, .inl (cI, 8, .inl (fun _ => 0)))]) := hD
  refine lv_aload_n hx hb zdi_4_27 rfl (lv_at hl 0 rfl) ?_
  refine lv_bipush (v := 8) hx hb zdi_4_28 (by decide) ?_
  refine zk_newI ⟨hx, hb⟩ (hts _ zaI) hK hA hP hD hS (N := 8) (by decide) (by decide) (Nat.le_of_ble_eq_true rfl) (Nat.le_of_ble_eq_true rfl) (Nat.le_of_ble_eq_true rfl) zdi_4_30 (fun q1 H hP hD hS => ?_)
  refine W.widen (k := 2) (n := 16) (by omega) (by omega) ?_
  have hP : va_P (dC, dI) zCl ([(h0, .inr (4, [.int 0, .int 0, .int 0, .ref q0, .null, .null, .null, .null])), (q0, .inl (cI, 8, .inl (fun _ => 0))), (q1, .inl (cI, 8, .inl (fun _ => 0)))]) H := hP
  have hD : va_D A ([(h0, .inr (4, [.int 0, .int 0, .int 0, .ref q0, .null, .null, .null, .null])), (q0, .inl (cI, 8, .inl (fun _ => 0))), (q1, .inl (cI, 8, .inl (fun _ => 0)))]) := hD
  refine zk_put (ci := 4) (k := 4) (fs' := [.int 0, .int 0, .int 0, .ref q0, .ref q1, .null, .null, .null]) ⟨hx, hb⟩ hown hts hK (by decide) (by decide) hP hD hS (zin 102 rfl rfl) (Or.inr ⟨rfl, hnm, rfl⟩) rfl rfl (Nat.le_of_ble_eq_true rfl) rfl zdi_4_32 (fun H locs hP hD hS => ?_)
  have hP : va_P (dC, dI) zCl ([(h0, .inr (4, [.int 0, .int 0, .int 0, .ref q0, .ref q1, .null, .null, .null])), (q0, .inl (cI, 8, .inl (fun _ => 0))), (q1, .inl (cI, 8, .inl (fun _ => 0)))]) H := hP
  have hD : va_D A ([(h0, .inr (4, [.int 0, .int 0, .int 0, .ref q0, .ref q1, .null, .null, .null])), (q0, .inl (cI, 8, .inl (fun _ => 0))), (q1, .inl (cI, 8, .inl (fun _ => 0)))]) := hD
  refine lv_aload_n hx hb zdi_4_35 rfl (lv_at hl 0 rfl) ?_
  refine lv_bipush (v := 8) hx hb zdi_4_36 (by decide) ?_
  refine zk_newI ⟨hx, hb⟩ (hts _ zaI) hK hA hP hD hS (N := 8) (by decide) (by decide) (Nat.le_of_ble_eq_true rfl) (Nat.le_of_ble_eq_true rfl) (Nat.le_of_ble_eq_true rfl) zdi_4_38 (fun q2 H hP hD hS => ?_)
  refine W.widen (k := 3) (n := 24) (by omega) (by omega) ?_
  have hP : va_P (dC, dI) zCl ([(h0, .inr (4, [.int 0, .int 0, .int 0, .ref q0, .ref q1, .null, .null, .null])), (q0, .inl (cI, 8, .inl (fun _ => 0))), (q1, .inl (cI, 8, .inl (fun _ => 0))), (q2, .inl (cI, 8, .inl (fun _ => 0)))]) H := hP
  have hD : va_D A ([(h0, .inr (4, [.int 0, .int 0, .int 0, .ref q0, .ref q1, .null, .null, .null])), (q0, .inl (cI, 8, .inl (fun _ => 0))), (q1, .inl (cI, 8, .inl (fun _ => 0))), (q2, .inl (cI, 8, .inl (fun _ => 0)))]) := hD
  refine zk_put (ci := 4) (k := 5) (fs' := [.int 0, .int 0, .int 0, .ref q0, .ref q1, .ref q2, .null, .null]) ⟨hx, hb⟩ hown hts hK (by decide) (by decide) hP hD hS (zin 105 rfl rfl) (Or.inr ⟨rfl, hnm, rfl⟩) rfl rfl (Nat.le_of_ble_eq_true rfl) rfl zdi_4_40 (fun H locs hP hD hS => ?_)
  have hP : va_P (dC, dI) zCl ([(h0, .inr (4, [.int 0, .int 0, .int 0, .ref q0, .ref q1, .ref q2, .null, .null])), (q0, .inl (cI, 8, .inl (fun _ => 0))), (q1, .inl (cI, 8, .inl (fun _ => 0))), (q2, .inl (cI, 8, .inl (fun _ => 0)))]) H := hP
  have hD : va_D A ([(h0, .inr (4, [.int 0, .int 0, .int 0, .ref q0, .ref q1, .ref q2, .null, .null])), (q0, .inl (cI, 8, .inl (fun _ => 0))), (q1, .inl (cI, 8, .inl (fun _ => 0))), (q2, .inl (cI, 8, .inl (fun _ => 0)))]) := hD
  refine lv_aload_n hx hb zdi_4_43 rfl (lv_at hl 0 rfl) ?_
  refine lv_iconst (v := 4) hx hb zdi_4_44 (by decide) ?_
  refine zk_newI ⟨hx, hb⟩ (hts _ zaI) hK hA hP hD hS (N := 4) (by decide) (by decide) (Nat.le_of_ble_eq_true rfl) (Nat.le_of_ble_eq_true rfl) (Nat.le_of_ble_eq_true rfl) zdi_4_45 (fun q3 H hP hD hS => ?_)
  refine W.widen (k := 4) (n := 28) (by omega) (by omega) ?_
  have hP : va_P (dC, dI) zCl ([(h0, .inr (4, [.int 0, .int 0, .int 0, .ref q0, .ref q1, .ref q2, .null, .null])), (q0, .inl (cI, 8, .inl (fun _ => 0))), (q1, .inl (cI, 8, .inl (fun _ => 0))), (q2, .inl (cI, 8, .inl (fun _ => 0))), (q3, .inl (cI, 4, .inl (fun _ => 0)))]) H := hP
  have hD : va_D A ([(h0, .inr (4, [.int 0, .int 0, .int 0, .ref q0, .ref q1, .ref q2, .null, .null])), (q0, .inl (cI, 8, .inl (fun _ => 0))), (q1, .inl (cI, 8, .inl (fun _ => 0))), (q2, .inl (cI, 8, .inl (fun _ => 0))), (q3, .inl (cI, 4, .inl (fun _ => 0)))]) := hD
  refine zk_put (ci := 4) (k := 6) (fs' := [.int 0, .int 0, .int 0, .ref q0, .ref q1, .ref q2, .ref q3, .null]) ⟨hx, hb⟩ hown hts hK (by decide) (by decide) hP hD hS (zin 108 rfl rfl) (Or.inr ⟨rfl, hnm, rfl⟩) rfl rfl (Nat.le_of_ble_eq_true rfl) rfl zdi_4_47 (fun H locs hP hD hS => ?_)
  have hP : va_P (dC, dI) zCl ([(h0, .inr (4, [.int 0, .int 0, .int 0, .ref q0, .ref q1, .ref q2, .ref q3, .null])), (q0, .inl (cI, 8, .inl (fun _ => 0))), (q1, .inl (cI, 8, .inl (fun _ => 0))), (q2, .inl (cI, 8, .inl (fun _ => 0))), (q3, .inl (cI, 4, .inl (fun _ => 0)))]) H := hP
  have hD : va_D A ([(h0, .inr (4, [.int 0, .int 0, .int 0, .ref q0, .ref q1, .ref q2, .ref q3, .null])), (q0, .inl (cI, 8, .inl (fun _ => 0))), (q1, .inl (cI, 8, .inl (fun _ => 0))), (q2, .inl (cI, 8, .inl (fun _ => 0))), (q3, .inl (cI, 4, .inl (fun _ => 0)))]) := hD
  refine lv_aload_n hx hb zdi_4_50 rfl (lv_at hl 0 rfl) ?_
  refine va_new (D := (dC, dI)) (ci := 1) (fs := [.int 0, .null, .null, .null]) (C := zR1) (T := zT1) (N := 4) hx hb hts zlw1 zY1 zY1_ok hown (hts _ (zin 66 rfl rfl)) (hts _ (zin 67 rfl rfl)) (hts _ (zin 44 rfl rfl)) hK hP hD hS hA rfl (fun j hj => by rcases (show j = 0 ∨ j = 1 ∨ j = 2 ∨ j = 3 by omega) with rfl | rfl | rfl | rfl <;> rfl) (Nat.le_of_ble_eq_true rfl) (Nat.le_of_ble_eq_true rfl) zdi_4_51 (fun q4 H hP hD hS => ?_)
  refine W.widen (k := 5) (n := 32) (by omega) (by omega) ?_
  refine lv_dup hx hb zdi_4_54 rfl ?_
  refine zk_call (ws := [(h0, .inr (4, [.int 0, .int 0, .int 0, .ref q0, .ref q1, .ref q2, .ref q3, .null])), (q0, .inl (cI, 8, .inl (fun _ => 0))), (q1, .inl (cI, 8, .inl (fun _ => 0))), (q2, .inl (cI, 8, .inl (fun _ => 0))), (q3, .inl (cI, 4, .inl (fun _ => 0)))]) F (zk_1 l dC dI cI cC cS) (Or.inr ⟨"BorderPaints", by decide +kernel⟩) (zin 44 rfl rfl) (zin 69 rfl rfl) (zin 70 rfl rfl) rfl ⟨by decide +kernel, by decide +kernel, by decide +kernel⟩ rfl rfl ⟨Nat.le_of_ble_eq_true rfl, Nat.le_of_ble_eq_true rfl⟩ ⟨Nat.le_of_ble_eq_true rfl, Nat.le_of_ble_eq_true rfl⟩ hl.1 (Nat.le_of_ble_eq_true rfl) hP hD hS zdi_4_55 (fun b5 H locs hP hD hS => ?_)
  refine W.widen (k := 8) (n := 116) (by omega) (by omega) ?_
  have hP : va_P (dC, dI) zCl ([(h0, .inr (4, [.int 0, .int 0, .int 0, .ref q0, .ref q1, .ref q2, .ref q3, .null])), (q0, .inl (cI, 8, .inl (fun _ => 0))), (q1, .inl (cI, 8, .inl (fun _ => 0))), (q2, .inl (cI, 8, .inl (fun _ => 0))), (q3, .inl (cI, 4, .inl (fun _ => 0)))] ++ zw_B cI q4 b5) H := hP
  have hD : va_D A ([(h0, .inr (4, [.int 0, .int 0, .int 0, .ref q0, .ref q1, .ref q2, .ref q3, .null])), (q0, .inl (cI, 8, .inl (fun _ => 0))), (q1, .inl (cI, 8, .inl (fun _ => 0))), (q2, .inl (cI, 8, .inl (fun _ => 0))), (q3, .inl (cI, 4, .inl (fun _ => 0)))] ++ zw_B cI q4 b5) := hD
  refine zk_put (ci := 4) (k := 7) (fs' := [.int 0, .int 0, .int 0, .ref q0, .ref q1, .ref q2, .ref q3, .ref q4]) ⟨hx, hb⟩ hown hts hK (by decide) (by decide) hP hD hS (zin 110 rfl rfl) (Or.inr ⟨rfl, hnm, rfl⟩) rfl rfl (Nat.le_of_ble_eq_true rfl) rfl zdi_4_58 (fun H locs hP hD hS => ?_)
  have hP : va_P (dC, dI) zCl ([(h0, .inr (4, [.int 0, .int 0, .int 0, .ref q0, .ref q1, .ref q2, .ref q3, .ref q4])), (q0, .inl (cI, 8, .inl (fun _ => 0))), (q1, .inl (cI, 8, .inl (fun _ => 0))), (q2, .inl (cI, 8, .inl (fun _ => 0))), (q3, .inl (cI, 4, .inl (fun _ => 0)))] ++ zw_B cI q4 b5) H := hP
  have hD : va_D A ([(h0, .inr (4, [.int 0, .int 0, .int 0, .ref q0, .ref q1, .ref q2, .ref q3, .ref q4])), (q0, .inl (cI, 8, .inl (fun _ => 0))), (q1, .inl (cI, 8, .inl (fun _ => 0))), (q2, .inl (cI, 8, .inl (fun _ => 0))), (q3, .inl (cI, 4, .inl (fun _ => 0)))] ++ zw_B cI q4 b5) := hD
  refine lv_iconst (v := 0) hx hb zdi_4_61 (by decide) ?_
  refine lv_istore_n (lv' := [(1, .int 0), (0, .ref h0)]) hx hb zdi_4_62 rfl hl (by decide) rfl (fun ls hl => ?_)
  refine lv_iload_n hx hb zdi_4_63 rfl (lv_at hl 0 rfl) ?_
  refine lv_iconst (v := 4) hx hb zdi_4_64 (by decide) ?_
  refine lv_icmp_ge (tgt := 83) hx hb zdi_4_65 (by decide) (fun hq => absurd hq (by decide)) (fun _ => ?_)
  refine lv_aload_n hx hb zdi_4_68 rfl (lv_at hl 1 rfl) ?_
  refine va_get (D := (dC, dI)) (ci := 4) (v := .ref q3) (C := zR4) (T := zT4) (N := 8) hx hb hts zlw4 hown hK hP 0 rfl rfl 6 (by decide) (hts _ (zin 108 rfl rfl)) (fun _ h9 => h9) rfl zdi_4_69 ?_
  refine lv_iload_n hx hb zdi_4_72 rfl (lv_at hl 0 rfl) ?_
  refine lv_iconst (v := 1) hx hb zdi_4_73 (by decide) ?_
  refine lv_iload_n hx hb zdi_4_74 rfl (lv_at hl 0 rfl) ?_
  refine lv_ishl hx hb zdi_4_75 ?_
  refine lv_topi (fun z_ hz_ => ?_)
  obtain rfl : z_ = 1 := hz_.trans (by decide)
  refine va_iast (D := (dC, dI)) (f := (fun _ => 0)) hx hb hK hP hD hS 4 0 rfl rfl (zib_in (by decide)) zdi_4_76 (fun H locs hP hD hS => ?_)
  have hP : va_P (dC, dI) zCl ([(h0, .inr (4, [.int 0, .int 0, .int 0, .ref q0, .ref q1, .ref q2, .ref q3, .ref q4])), (q0, .inl (cI, 8, .inl (fun _ => 0))), (q1, .inl (cI, 8, .inl (fun _ => 0))), (q2, .inl (cI, 8, .inl (fun _ => 0))), (q3, .inl (cI, 4, .inl (upd (fun _ => 0) 0 1)))] ++ zw_B cI q4 b5) H := hP
  have hD : va_D A ([(h0, .inr (4, [.int 0, .int 0, .int 0, .ref q0, .ref q1, .ref q2, .ref q3, .ref q4])), (q0, .inl (cI, 8, .inl (fun _ => 0))), (q1, .inl (cI, 8, .inl (fun _ => 0))), (q2, .inl (cI, 8, .inl (fun _ => 0))), (q3, .inl (cI, 4, .inl (upd (fun _ => 0) 0 1)))] ++ zw_B cI q4 b5) := hD
  refine lv_iinc (v := 1) (lv' := [(1, .int 1), (0, .ref h0)]) hx hb zdi_4_77 hl (k := 0) rfl (by decide) (by decide) rfl (fun ls hl => ?_)
  refine lv_goto (tgt := 63) hx hb zdi_4_80 (by decide) ?_
  refine lv_iload_n hx hb zdi_4_63 rfl (lv_at hl 0 rfl) ?_
  refine lv_iconst (v := 4) hx hb zdi_4_64 (by decide) ?_
  refine lv_icmp_ge (tgt := 83) hx hb zdi_4_65 (by decide) (fun hq => absurd hq (by decide)) (fun _ => ?_)
  refine lv_aload_n hx hb zdi_4_68 rfl (lv_at hl 1 rfl) ?_
  refine va_get (D := (dC, dI)) (ci := 4) (v := .ref q3) (C := zR4) (T := zT4) (N := 8) hx hb hts zlw4 hown hK hP 0 rfl rfl 6 (by decide) (hts _ (zin 108 rfl rfl)) (fun _ h9 => h9) rfl zdi_4_69 ?_
  refine lv_iload_n hx hb zdi_4_72 rfl (lv_at hl 0 rfl) ?_
  refine lv_iconst (v := 1) hx hb zdi_4_73 (by decide) ?_
  refine lv_iload_n hx hb zdi_4_74 rfl (lv_at hl 0 rfl) ?_
  refine lv_ishl hx hb zdi_4_75 ?_
  refine lv_topi (fun z_ hz_ => ?_)
  obtain rfl : z_ = 2 := hz_.trans (by decide)
  refine va_iast (D := (dC, dI)) (f := (upd (fun _ => 0) 0 1)) hx hb hK hP hD hS 4 0 rfl rfl (zib_in (by decide)) zdi_4_76 (fun H locs hP hD hS => ?_)
  have hP : va_P (dC, dI) zCl ([(h0, .inr (4, [.int 0, .int 0, .int 0, .ref q0, .ref q1, .ref q2, .ref q3, .ref q4])), (q0, .inl (cI, 8, .inl (fun _ => 0))), (q1, .inl (cI, 8, .inl (fun _ => 0))), (q2, .inl (cI, 8, .inl (fun _ => 0))), (q3, .inl (cI, 4, .inl (upd (upd (fun _ => 0) 0 1) 1 2)))] ++ zw_B cI q4 b5) H := hP
  have hD : va_D A ([(h0, .inr (4, [.int 0, .int 0, .int 0, .ref q0, .ref q1, .ref q2, .ref q3, .ref q4])), (q0, .inl (cI, 8, .inl (fun _ => 0))), (q1, .inl (cI, 8, .inl (fun _ => 0))), (q2, .inl (cI, 8, .inl (fun _ => 0))), (q3, .inl (cI, 4, .inl (upd (upd (fun _ => 0) 0 1) 1 2)))] ++ zw_B cI q4 b5) := hD
  refine lv_iinc (v := 2) (lv' := [(1, .int 2), (0, .ref h0)]) hx hb zdi_4_77 hl (k := 0) rfl (by decide) (by decide) rfl (fun ls hl => ?_)
  refine lv_goto (tgt := 63) hx hb zdi_4_80 (by decide) ?_
  refine lv_iload_n hx hb zdi_4_63 rfl (lv_at hl 0 rfl) ?_
  refine lv_iconst (v := 4) hx hb zdi_4_64 (by decide) ?_
  refine lv_icmp_ge (tgt := 83) hx hb zdi_4_65 (by decide) (fun hq => absurd hq (by decide)) (fun _ => ?_)
  refine lv_aload_n hx hb zdi_4_68 rfl (lv_at hl 1 rfl) ?_
  refine va_get (D := (dC, dI)) (ci := 4) (v := .ref q3) (C := zR4) (T := zT4) (N := 8) hx hb hts zlw4 hown hK hP 0 rfl rfl 6 (by decide) (hts _ (zin 108 rfl rfl)) (fun _ h9 => h9) rfl zdi_4_69 ?_
  refine lv_iload_n hx hb zdi_4_72 rfl (lv_at hl 0 rfl) ?_
  refine lv_iconst (v := 1) hx hb zdi_4_73 (by decide) ?_
  refine lv_iload_n hx hb zdi_4_74 rfl (lv_at hl 0 rfl) ?_
  refine lv_ishl hx hb zdi_4_75 ?_
  refine lv_topi (fun z_ hz_ => ?_)
  obtain rfl : z_ = 4 := hz_.trans (by decide)
  refine va_iast (D := (dC, dI)) (f := (upd (upd (fun _ => 0) 0 1) 1 2)) hx hb hK hP hD hS 4 0 rfl rfl (zib_in (by decide)) zdi_4_76 (fun H locs hP hD hS => ?_)
  have hP : va_P (dC, dI) zCl ([(h0, .inr (4, [.int 0, .int 0, .int 0, .ref q0, .ref q1, .ref q2, .ref q3, .ref q4])), (q0, .inl (cI, 8, .inl (fun _ => 0))), (q1, .inl (cI, 8, .inl (fun _ => 0))), (q2, .inl (cI, 8, .inl (fun _ => 0))), (q3, .inl (cI, 4, .inl (upd (upd (upd (fun _ => 0) 0 1) 1 2) 2 4)))] ++ zw_B cI q4 b5) H := hP
  have hD : va_D A ([(h0, .inr (4, [.int 0, .int 0, .int 0, .ref q0, .ref q1, .ref q2, .ref q3, .ref q4])), (q0, .inl (cI, 8, .inl (fun _ => 0))), (q1, .inl (cI, 8, .inl (fun _ => 0))), (q2, .inl (cI, 8, .inl (fun _ => 0))), (q3, .inl (cI, 4, .inl (upd (upd (upd (fun _ => 0) 0 1) 1 2) 2 4)))] ++ zw_B cI q4 b5) := hD
  refine lv_iinc (v := 3) (lv' := [(1, .int 3), (0, .ref h0)]) hx hb zdi_4_77 hl (k := 0) rfl (by decide) (by decide) rfl (fun ls hl => ?_)
  refine lv_goto (tgt := 63) hx hb zdi_4_80 (by decide) ?_
  refine lv_iload_n hx hb zdi_4_63 rfl (lv_at hl 0 rfl) ?_
  refine lv_iconst (v := 4) hx hb zdi_4_64 (by decide) ?_
  refine lv_icmp_ge (tgt := 83) hx hb zdi_4_65 (by decide) (fun hq => absurd hq (by decide)) (fun _ => ?_)
  refine lv_aload_n hx hb zdi_4_68 rfl (lv_at hl 1 rfl) ?_
  refine va_get (D := (dC, dI)) (ci := 4) (v := .ref q3) (C := zR4) (T := zT4) (N := 8) hx hb hts zlw4 hown hK hP 0 rfl rfl 6 (by decide) (hts _ (zin 108 rfl rfl)) (fun _ h9 => h9) rfl zdi_4_69 ?_
  refine lv_iload_n hx hb zdi_4_72 rfl (lv_at hl 0 rfl) ?_
  refine lv_iconst (v := 1) hx hb zdi_4_73 (by decide) ?_
  refine lv_iload_n hx hb zdi_4_74 rfl (lv_at hl 0 rfl) ?_
  refine lv_ishl hx hb zdi_4_75 ?_
  refine lv_topi (fun z_ hz_ => ?_)
  obtain rfl : z_ = 8 := hz_.trans (by decide)
  refine va_iast (D := (dC, dI)) (f := (upd (upd (upd (fun _ => 0) 0 1) 1 2) 2 4)) hx hb hK hP hD hS 4 0 rfl rfl (zib_in (by decide)) zdi_4_76 (fun H locs hP hD hS => ?_)
  have hP : va_P (dC, dI) zCl ([(h0, .inr (4, [.int 0, .int 0, .int 0, .ref q0, .ref q1, .ref q2, .ref q3, .ref q4])), (q0, .inl (cI, 8, .inl (fun _ => 0))), (q1, .inl (cI, 8, .inl (fun _ => 0))), (q2, .inl (cI, 8, .inl (fun _ => 0))), (q3, .inl (cI, 4, .inl (upd (upd (upd (upd (fun _ => 0) 0 1) 1 2) 2 4) 3 8)))] ++ zw_B cI q4 b5) H := hP
  have hD : va_D A ([(h0, .inr (4, [.int 0, .int 0, .int 0, .ref q0, .ref q1, .ref q2, .ref q3, .ref q4])), (q0, .inl (cI, 8, .inl (fun _ => 0))), (q1, .inl (cI, 8, .inl (fun _ => 0))), (q2, .inl (cI, 8, .inl (fun _ => 0))), (q3, .inl (cI, 4, .inl (upd (upd (upd (upd (fun _ => 0) 0 1) 1 2) 2 4) 3 8)))] ++ zw_B cI q4 b5) := hD
  refine lv_iinc (v := 4) (lv' := [(1, .int 4), (0, .ref h0)]) hx hb zdi_4_77 hl (k := 0) rfl (by decide) (by decide) rfl (fun ls hl => ?_)
  refine lv_goto (tgt := 63) hx hb zdi_4_80 (by decide) ?_
  refine lv_iload_n hx hb zdi_4_63 rfl (lv_at hl 0 rfl) ?_
  refine lv_iconst (v := 4) hx hb zdi_4_64 (by decide) ?_
  refine lv_icmp_ge (tgt := 83) hx hb zdi_4_65 (by decide) (fun _ => ?_) (fun hq => absurd (by decide) hq)
  refine W.widen (k := 8) (n := 116) (by omega) (by omega) ?_
  exact hend (fun k => [0, q0, q1, q2, q3, q4, (b5 1), (b5 2), (b5 3)].getD k 0) 83 H locs ls zdi_4_83 hP hD hS
theorem zdi_2_0 : decode prog_4_method_1_code 0 = .ok (.aload_n 0, 1) := by decide +kernel
theorem zdi_2_1 : decode prog_4_method_1_code 1 = .ok (.invokespecial 3, 3) := by decide +kernel
theorem zdi_2_4 : decode prog_4_method_1_code 4 = .ok (.aload_n 0, 1) := by decide +kernel
theorem zdi_2_5 : decode prog_4_method_1_code 5 = .ok (.iconst 0, 1) := by decide +kernel
theorem zdi_2_6 : decode prog_4_method_1_code 6 = .ok (.putfield 9, 3) := by decide +kernel
theorem zdi_2_9 : decode prog_4_method_1_code 9 = .ok (.aload_n 0, 1) := by decide +kernel
theorem zdi_2_10 : decode prog_4_method_1_code 10 = .ok (.iconst 0, 1) := by decide +kernel
theorem zdi_2_11 : decode prog_4_method_1_code 11 = .ok (.putfield 15, 3) := by decide +kernel
theorem zdi_2_14 : decode prog_4_method_1_code 14 = .ok (.aload_n 0, 1) := by decide +kernel
theorem zdi_2_15 : decode prog_4_method_1_code 15 = .ok (.iconst 4, 1) := by decide +kernel
theorem zdi_2_16 : decode prog_4_method_1_code 16 = .ok (.anewarray 18, 3) := by decide +kernel
theorem zdi_2_19 : decode prog_4_method_1_code 19 = .ok (.putfield 20, 3) := by decide +kernel
theorem zdi_2_22 : decode prog_4_method_1_code 22 = .ok (.iconst 0, 1) := by decide +kernel
theorem zdi_2_23 : decode prog_4_method_1_code 23 = .ok (.istore_n 1, 1) := by decide +kernel
theorem zdi_2_24 : decode prog_4_method_1_code 24 = .ok (.iload_n 1, 1) := by decide +kernel
theorem zdi_2_25 : decode prog_4_method_1_code 25 = .ok (.iconst 4, 1) := by decide +kernel
theorem zdi_2_26 : decode prog_4_method_1_code 26 = .ok (.if_icmp .ge 22, 3) := by decide +kernel
theorem zdi_2_29 : decode prog_4_method_1_code 29 = .ok (.aload_n 0, 1) := by decide +kernel
theorem zdi_2_30 : decode prog_4_method_1_code 30 = .ok (.getfield 20, 3) := by decide +kernel
theorem zdi_2_33 : decode prog_4_method_1_code 33 = .ok (.iload_n 1, 1) := by decide +kernel
theorem zdi_2_34 : decode prog_4_method_1_code 34 = .ok (.new 18, 3) := by decide +kernel
theorem zdi_2_37 : decode prog_4_method_1_code 37 = .ok (.dup, 1) := by decide +kernel
theorem zdi_2_38 : decode prog_4_method_1_code 38 = .ok (.invokespecial 24, 3) := by decide +kernel
theorem zdi_2_41 : decode prog_4_method_1_code 41 = .ok (.aastore, 1) := by decide +kernel
theorem zdi_2_42 : decode prog_4_method_1_code 42 = .ok (.iinc 1 1, 3) := by decide +kernel
theorem zdi_2_45 : decode prog_4_method_1_code 45 = .ok (.goto (-21), 3) := by decide +kernel
theorem zdi_2_48 : decode prog_4_method_1_code 48 = .ok (.return_, 1) := by decide +kernel
set_option maxHeartbeats 4000000 in
set_option maxRecDepth 100000 in
theorem zk_2 (l : Launch) (dC : Nat → ClassId) (dI : Nat → Nat → Nat) (cI cC cS : ClassId) : zKC l dC dI cI cC cS ⟨zR2, "<init>", "()V"⟩ prog_4_method_1_code 2 { frames := 4, cells := 37, slots := 500, locals := 240 } 37 500 2 [.int 0, .int 0, .null] (zw_H cI cS) := by
  refine zk_met (by decide +kernel) rfl (by decide) ?_
  intro h0 p e s m args below meth c A ls Q F hl hP hD hend
  obtain ⟨hx, hb, hml, hown, hts, hK, hNE, hA, hlocks, hret, hnm⟩ := id F
  have hS : va_S A s.heap s.heap [] := va_S.rf
  refine lv_aload_n hx hb zdi_2_0 rfl (lv_at hl 0 rfl) ?_
  refine W.objInit hx hb hown (hts _ (zin 135 rfl rfl)) (hts _ zoi_i) (hts _ zoi_c) rfl (by rw [hml]; exact hl.1) rfl zdi_2_1 (Nat.le_of_ble_eq_true rfl) (Nat.le_of_ble_eq_true rfl) ?_
  refine W.eq (g2 := F0 m 4 ls []) rfl ?_
  refine lv_aload_n hx hb zdi_2_4 rfl (lv_at hl 0 rfl) ?_
  refine lv_iconst (v := 0) hx hb zdi_2_5 (by decide) ?_
  refine zk_put (ci := 2) (k := 0) (fs' := [.int 0, .int 0, .null]) ⟨hx, hb⟩ hown hts hK (by decide) (by decide) hP hD hS (zin 139 rfl rfl) (Or.inl rfl) rfl rfl (Nat.le_of_ble_eq_true rfl) rfl zdi_2_6 (fun H locs hP hD hS => ?_)
  have hP : va_P (dC, dI) zCl ([(h0, .inr (2, [.int 0, .int 0, .null]))]) H := hP
  have hD : va_D A ([(h0, .inr (2, [.int 0, .int 0, .null]))]) := hD
  refine lv_aload_n hx hb zdi_2_9 rfl (lv_at hl 0 rfl) ?_
  refine lv_iconst (v := 0) hx hb zdi_2_10 (by decide) ?_
  refine zk_put (ci := 2) (k := 1) (fs' := [.int 0, .int 0, .null]) ⟨hx, hb⟩ hown hts hK (by decide) (by decide) hP hD hS (zin 141 rfl rfl) (Or.inl rfl) rfl rfl (Nat.le_of_ble_eq_true rfl) rfl zdi_2_11 (fun H locs hP hD hS => ?_)
  have hP : va_P (dC, dI) zCl ([(h0, .inr (2, [.int 0, .int 0, .null]))]) H := hP
  have hD : va_D A ([(h0, .inr (2, [.int 0, .int 0, .null]))]) := hD
  refine lv_aload_n hx hb zdi_2_14 rfl (lv_at hl 0 rfl) ?_
  refine lv_iconst (v := 4) hx hb zdi_2_15 (by decide) ?_
  refine zk_newS ⟨hx, hb⟩ hown (hts _ (zin 136 rfl rfl)) hNE hK hA hP hD hS (N := 4) (by decide) (by decide) (Nat.le_of_ble_eq_true rfl) (Nat.le_of_ble_eq_true rfl) (Nat.le_of_ble_eq_true rfl) zdi_2_16 (fun q0 H hP hD hS => ?_)
  refine W.widen (k := 1) (n := 4) (by omega) (by omega) ?_
  have hP : va_P (dC, dI) zCl ([(h0, .inr (2, [.int 0, .int 0, .null])), (q0, .inl (cS, 4, .inr (.inr (.inr (.inr (fun _ => none))))))]) H := hP
  have hD : va_D A ([(h0, .inr (2, [.int 0, .int 0, .null])), (q0, .inl (cS, 4, .inr (.inr (.inr (.inr (fun _ => none))))))]) := hD
  refine zk_put (ci := 2) (k := 2) (fs' := [.int 0, .int 0, .ref q0]) ⟨hx, hb⟩ hown hts hK (by decide) (by decide) hP hD hS (zin 142 rfl rfl) (Or.inr ⟨rfl, hnm, rfl⟩) rfl rfl (Nat.le_of_ble_eq_true rfl) rfl zdi_2_19 (fun H locs hP hD hS => ?_)
  have hP : va_P (dC, dI) zCl ([(h0, .inr (2, [.int 0, .int 0, .ref q0])), (q0, .inl (cS, 4, .inr (.inr (.inr (.inr (fun _ => none))))))]) H := hP
  have hD : va_D A ([(h0, .inr (2, [.int 0, .int 0, .ref q0])), (q0, .inl (cS, 4, .inr (.inr (.inr (.inr (fun _ => none))))))]) := hD
  refine lv_iconst (v := 0) hx hb zdi_2_22 (by decide) ?_
  refine lv_istore_n (lv' := [(1, .int 0), (0, .ref h0)]) hx hb zdi_2_23 rfl hl (by decide) rfl (fun ls hl => ?_)
  refine lv_iload_n hx hb zdi_2_24 rfl (lv_at hl 0 rfl) ?_
  refine lv_iconst (v := 4) hx hb zdi_2_25 (by decide) ?_
  refine lv_icmp_ge (tgt := 48) hx hb zdi_2_26 (by decide) (fun hq => absurd hq (by decide)) (fun _ => ?_)
  refine lv_aload_n hx hb zdi_2_29 rfl (lv_at hl 1 rfl) ?_
  refine va_get (D := (dC, dI)) (ci := 2) (v := .ref q0) (C := zR2) (T := zT2) (N := 3) hx hb hts zlw2 hown hK hP 0 rfl rfl 2 (by decide) (hts _ (zin 142 rfl rfl)) (fun _ h9 => h9) rfl zdi_2_30 ?_
  refine lv_iload_n hx hb zdi_2_33 rfl (lv_at hl 0 rfl) ?_
  refine va_new (D := (dC, dI)) (ci := 4) (fs := [.int 0, .int 0, .int 0, .null, .null, .null, .null, .null]) (C := zR4) (T := zT4) (N := 8) hx hb hts zlw4 zY4 zY4_ok hown (hts _ (zin 136 rfl rfl)) (hts _ (zin 61 rfl rfl)) (hts _ (zin 43 rfl rfl)) hK hP hD hS hA rfl (fun j hj => by rcases (show j = 0 ∨ j = 1 ∨ j = 2 ∨ j = 3 ∨ j = 4 ∨ j = 5 ∨ j = 6 ∨ j = 7 by omega) with rfl | rfl | rfl | rfl | rfl | rfl | rfl | rfl <;> rfl) (Nat.le_of_ble_eq_true rfl) (Nat.le_of_ble_eq_true rfl) zdi_2_34 (fun q1 H hP hD hS => ?_)
  refine W.widen (k := 2) (n := 12) (by omega) (by omega) ?_
  refine lv_dup hx hb zdi_2_37 rfl ?_
  refine zk_call (ws := [(h0, .inr (2, [.int 0, .int 0, .ref q0])), (q0, .inl (cS, 4, .inr (.inr (.inr (.inr (fun _ => none))))))]) F (zk_4 l dC dI cI cC cS) (Or.inl (zin 138 rfl rfl)) (zin 43 rfl rfl) (zin 63 rfl rfl) (zin 64 rfl rfl) rfl ⟨by decide +kernel, by decide +kernel, by decide +kernel⟩ rfl rfl ⟨Nat.le_of_ble_eq_true rfl, Nat.le_of_ble_eq_true rfl⟩ ⟨Nat.le_of_ble_eq_true rfl, Nat.le_of_ble_eq_true rfl⟩ hl.1 (Nat.le_of_ble_eq_true rfl) hP hD hS zdi_2_38 (fun b2 H locs hP hD hS => ?_)
  refine W.widen (k := 10) (n := 128) (by omega) (by omega) ?_
  have hP : va_P (dC, dI) zCl ([(h0, .inr (2, [.int 0, .int 0, .ref q0])), (q0, .inl (cS, 4, .inr (.inr (.inr (.inr (fun _ => none))))))] ++ zw_S cI q1 b2) H := hP
  have hD : va_D A ([(h0, .inr (2, [.int 0, .int 0, .ref q0])), (q0, .inl (cS, 4, .inr (.inr (.inr (.inr (fun _ => none))))))] ++ zw_S cI q1 b2) := hD
  refine va_astq (D := (dC, dI)) (f := (fun _ => none)) hx hb hK hP hD hS 1 2 2 4 rfl rfl rfl rfl (zib_in (by decide)) zdi_2_41 (fun H locs hP hD hS => ?_)
  have hP : va_P (dC, dI) zCl ([(h0, .inr (2, [.int 0, .int 0, .ref q0])), (q0, .inl (cS, 4, .inr (.inr (.inr (.inr (va_up (fun _ => none) 0 (some q1)))))))] ++ zw_S cI q1 b2) H := hP
  have hD : va_D A ([(h0, .inr (2, [.int 0, .int 0, .ref q0])), (q0, .inl (cS, 4, .inr (.inr (.inr (.inr (va_up (fun _ => none) 0 (some q1)))))))] ++ zw_S cI q1 b2) := hD
  refine lv_iinc (v := 1) (lv' := [(1, .int 1), (0, .ref h0)]) hx hb zdi_2_42 hl (k := 0) rfl (by decide) (by decide) rfl (fun ls hl => ?_)
  refine lv_goto (tgt := 24) hx hb zdi_2_45 (by decide) ?_
  refine lv_iload_n hx hb zdi_2_24 rfl (lv_at hl 0 rfl) ?_
  refine lv_iconst (v := 4) hx hb zdi_2_25 (by decide) ?_
  refine lv_icmp_ge (tgt := 48) hx hb zdi_2_26 (by decide) (fun hq => absurd hq (by decide)) (fun _ => ?_)
  refine lv_aload_n hx hb zdi_2_29 rfl (lv_at hl 1 rfl) ?_
  refine va_get (D := (dC, dI)) (ci := 2) (v := .ref q0) (C := zR2) (T := zT2) (N := 3) hx hb hts zlw2 hown hK hP 0 rfl rfl 2 (by decide) (hts _ (zin 142 rfl rfl)) (fun _ h9 => h9) rfl zdi_2_30 ?_
  refine lv_iload_n hx hb zdi_2_33 rfl (lv_at hl 0 rfl) ?_
  refine va_new (D := (dC, dI)) (ci := 4) (fs := [.int 0, .int 0, .int 0, .null, .null, .null, .null, .null]) (C := zR4) (T := zT4) (N := 8) hx hb hts zlw4 zY4 zY4_ok hown (hts _ (zin 136 rfl rfl)) (hts _ (zin 61 rfl rfl)) (hts _ (zin 43 rfl rfl)) hK hP hD hS hA rfl (fun j hj => by rcases (show j = 0 ∨ j = 1 ∨ j = 2 ∨ j = 3 ∨ j = 4 ∨ j = 5 ∨ j = 6 ∨ j = 7 by omega) with rfl | rfl | rfl | rfl | rfl | rfl | rfl | rfl <;> rfl) (Nat.le_of_ble_eq_true rfl) (Nat.le_of_ble_eq_true rfl) zdi_2_34 (fun q3 H hP hD hS => ?_)
  refine W.widen (k := 11) (n := 136) (by omega) (by omega) ?_
  refine lv_dup hx hb zdi_2_37 rfl ?_
  refine zk_call (ws := [(h0, .inr (2, [.int 0, .int 0, .ref q0])), (q0, .inl (cS, 4, .inr (.inr (.inr (.inr (va_up (fun _ => none) 0 (some q1)))))))] ++ zw_S cI q1 b2) F (zk_4 l dC dI cI cC cS) (Or.inl (zin 138 rfl rfl)) (zin 43 rfl rfl) (zin 63 rfl rfl) (zin 64 rfl rfl) rfl ⟨by decide +kernel, by decide +kernel, by decide +kernel⟩ rfl rfl ⟨Nat.le_of_ble_eq_true rfl, Nat.le_of_ble_eq_true rfl⟩ ⟨Nat.le_of_ble_eq_true rfl, Nat.le_of_ble_eq_true rfl⟩ hl.1 (Nat.le_of_ble_eq_true rfl) hP hD hS zdi_2_38 (fun b4 H locs hP hD hS => ?_)
  refine W.widen (k := 19) (n := 252) (by omega) (by omega) ?_
  have hP : va_P (dC, dI) zCl ([(h0, .inr (2, [.int 0, .int 0, .ref q0])), (q0, .inl (cS, 4, .inr (.inr (.inr (.inr (va_up (fun _ => none) 0 (some q1)))))))] ++ zw_S cI q1 b2 ++ zw_S cI q3 b4) H := hP
  have hD : va_D A ([(h0, .inr (2, [.int 0, .int 0, .ref q0])), (q0, .inl (cS, 4, .inr (.inr (.inr (.inr (va_up (fun _ => none) 0 (some q1)))))))] ++ zw_S cI q1 b2 ++ zw_S cI q3 b4) := hD
  refine va_astq (D := (dC, dI)) (f := (va_up (fun _ => none) 0 (some q1))) hx hb hK hP hD hS 1 2 11 4 rfl rfl rfl rfl (zib_in (by decide)) zdi_2_41 (fun H locs hP hD hS => ?_)
  have hP : va_P (dC, dI) zCl ([(h0, .inr (2, [.int 0, .int 0, .ref q0])), (q0, .inl (cS, 4, .inr (.inr (.inr (.inr (va_up (va_up (fun _ => none) 0 (some q1)) 1 (some q3)))))))] ++ zw_S cI q1 b2 ++ zw_S cI q3 b4) H := hP
  have hD : va_D A ([(h0, .inr (2, [.int 0, .int 0, .ref q0])), (q0, .inl (cS, 4, .inr (.inr (.inr (.inr (va_up (va_up (fun _ => none) 0 (some q1)) 1 (some q3)))))))] ++ zw_S cI q1 b2 ++ zw_S cI q3 b4) := hD
  refine lv_iinc (v := 2) (lv' := [(1, .int 2), (0, .ref h0)]) hx hb zdi_2_42 hl (k := 0) rfl (by decide) (by decide) rfl (fun ls hl => ?_)
  refine lv_goto (tgt := 24) hx hb zdi_2_45 (by decide) ?_
  refine lv_iload_n hx hb zdi_2_24 rfl (lv_at hl 0 rfl) ?_
  refine lv_iconst (v := 4) hx hb zdi_2_25 (by decide) ?_
  refine lv_icmp_ge (tgt := 48) hx hb zdi_2_26 (by decide) (fun hq => absurd hq (by decide)) (fun _ => ?_)
  refine lv_aload_n hx hb zdi_2_29 rfl (lv_at hl 1 rfl) ?_
  refine va_get (D := (dC, dI)) (ci := 2) (v := .ref q0) (C := zR2) (T := zT2) (N := 3) hx hb hts zlw2 hown hK hP 0 rfl rfl 2 (by decide) (hts _ (zin 142 rfl rfl)) (fun _ h9 => h9) rfl zdi_2_30 ?_
  refine lv_iload_n hx hb zdi_2_33 rfl (lv_at hl 0 rfl) ?_
  refine va_new (D := (dC, dI)) (ci := 4) (fs := [.int 0, .int 0, .int 0, .null, .null, .null, .null, .null]) (C := zR4) (T := zT4) (N := 8) hx hb hts zlw4 zY4 zY4_ok hown (hts _ (zin 136 rfl rfl)) (hts _ (zin 61 rfl rfl)) (hts _ (zin 43 rfl rfl)) hK hP hD hS hA rfl (fun j hj => by rcases (show j = 0 ∨ j = 1 ∨ j = 2 ∨ j = 3 ∨ j = 4 ∨ j = 5 ∨ j = 6 ∨ j = 7 by omega) with rfl | rfl | rfl | rfl | rfl | rfl | rfl | rfl <;> rfl) (Nat.le_of_ble_eq_true rfl) (Nat.le_of_ble_eq_true rfl) zdi_2_34 (fun q5 H hP hD hS => ?_)
  refine W.widen (k := 20) (n := 260) (by omega) (by omega) ?_
  refine lv_dup hx hb zdi_2_37 rfl ?_
  refine zk_call (ws := [(h0, .inr (2, [.int 0, .int 0, .ref q0])), (q0, .inl (cS, 4, .inr (.inr (.inr (.inr (va_up (va_up (fun _ => none) 0 (some q1)) 1 (some q3)))))))] ++ zw_S cI q1 b2 ++ zw_S cI q3 b4) F (zk_4 l dC dI cI cC cS) (Or.inl (zin 138 rfl rfl)) (zin 43 rfl rfl) (zin 63 rfl rfl) (zin 64 rfl rfl) rfl ⟨by decide +kernel, by decide +kernel, by decide +kernel⟩ rfl rfl ⟨Nat.le_of_ble_eq_true rfl, Nat.le_of_ble_eq_true rfl⟩ ⟨Nat.le_of_ble_eq_true rfl, Nat.le_of_ble_eq_true rfl⟩ hl.1 (Nat.le_of_ble_eq_true rfl) hP hD hS zdi_2_38 (fun b6 H locs hP hD hS => ?_)
  refine W.widen (k := 28) (n := 376) (by omega) (by omega) ?_
  have hP : va_P (dC, dI) zCl ([(h0, .inr (2, [.int 0, .int 0, .ref q0])), (q0, .inl (cS, 4, .inr (.inr (.inr (.inr (va_up (va_up (fun _ => none) 0 (some q1)) 1 (some q3)))))))] ++ zw_S cI q1 b2 ++ zw_S cI q3 b4 ++ zw_S cI q5 b6) H := hP
  have hD : va_D A ([(h0, .inr (2, [.int 0, .int 0, .ref q0])), (q0, .inl (cS, 4, .inr (.inr (.inr (.inr (va_up (va_up (fun _ => none) 0 (some q1)) 1 (some q3)))))))] ++ zw_S cI q1 b2 ++ zw_S cI q3 b4 ++ zw_S cI q5 b6) := hD
  refine va_astq (D := (dC, dI)) (f := (va_up (va_up (fun _ => none) 0 (some q1)) 1 (some q3))) hx hb hK hP hD hS 1 2 20 4 rfl rfl rfl rfl (zib_in (by decide)) zdi_2_41 (fun H locs hP hD hS => ?_)
  have hP : va_P (dC, dI) zCl ([(h0, .inr (2, [.int 0, .int 0, .ref q0])), (q0, .inl (cS, 4, .inr (.inr (.inr (.inr (va_up (va_up (va_up (fun _ => none) 0 (some q1)) 1 (some q3)) 2 (some q5)))))))] ++ zw_S cI q1 b2 ++ zw_S cI q3 b4 ++ zw_S cI q5 b6) H := hP
  have hD : va_D A ([(h0, .inr (2, [.int 0, .int 0, .ref q0])), (q0, .inl (cS, 4, .inr (.inr (.inr (.inr (va_up (va_up (va_up (fun _ => none) 0 (some q1)) 1 (some q3)) 2 (some q5)))))))] ++ zw_S cI q1 b2 ++ zw_S cI q3 b4 ++ zw_S cI q5 b6) := hD
  refine lv_iinc (v := 3) (lv' := [(1, .int 3), (0, .ref h0)]) hx hb zdi_2_42 hl (k := 0) rfl (by decide) (by decide) rfl (fun ls hl => ?_)
  refine lv_goto (tgt := 24) hx hb zdi_2_45 (by decide) ?_
  refine lv_iload_n hx hb zdi_2_24 rfl (lv_at hl 0 rfl) ?_
  refine lv_iconst (v := 4) hx hb zdi_2_25 (by decide) ?_
  refine lv_icmp_ge (tgt := 48) hx hb zdi_2_26 (by decide) (fun hq => absurd hq (by decide)) (fun _ => ?_)
  refine lv_aload_n hx hb zdi_2_29 rfl (lv_at hl 1 rfl) ?_
  refine va_get (D := (dC, dI)) (ci := 2) (v := .ref q0) (C := zR2) (T := zT2) (N := 3) hx hb hts zlw2 hown hK hP 0 rfl rfl 2 (by decide) (hts _ (zin 142 rfl rfl)) (fun _ h9 => h9) rfl zdi_2_30 ?_
  refine lv_iload_n hx hb zdi_2_33 rfl (lv_at hl 0 rfl) ?_
  refine va_new (D := (dC, dI)) (ci := 4) (fs := [.int 0, .int 0, .int 0, .null, .null, .null, .null, .null]) (C := zR4) (T := zT4) (N := 8) hx hb hts zlw4 zY4 zY4_ok hown (hts _ (zin 136 rfl rfl)) (hts _ (zin 61 rfl rfl)) (hts _ (zin 43 rfl rfl)) hK hP hD hS hA rfl (fun j hj => by rcases (show j = 0 ∨ j = 1 ∨ j = 2 ∨ j = 3 ∨ j = 4 ∨ j = 5 ∨ j = 6 ∨ j = 7 by omega) with rfl | rfl | rfl | rfl | rfl | rfl | rfl | rfl <;> rfl) (Nat.le_of_ble_eq_true rfl) (Nat.le_of_ble_eq_true rfl) zdi_2_34 (fun q7 H hP hD hS => ?_)
  refine W.widen (k := 29) (n := 384) (by omega) (by omega) ?_
  refine lv_dup hx hb zdi_2_37 rfl ?_
  refine zk_call (ws := [(h0, .inr (2, [.int 0, .int 0, .ref q0])), (q0, .inl (cS, 4, .inr (.inr (.inr (.inr (va_up (va_up (va_up (fun _ => none) 0 (some q1)) 1 (some q3)) 2 (some q5)))))))] ++ zw_S cI q1 b2 ++ zw_S cI q3 b4 ++ zw_S cI q5 b6) F (zk_4 l dC dI cI cC cS) (Or.inl (zin 138 rfl rfl)) (zin 43 rfl rfl) (zin 63 rfl rfl) (zin 64 rfl rfl) rfl ⟨by decide +kernel, by decide +kernel, by decide +kernel⟩ rfl rfl ⟨Nat.le_of_ble_eq_true rfl, Nat.le_of_ble_eq_true rfl⟩ ⟨Nat.le_of_ble_eq_true rfl, Nat.le_of_ble_eq_true rfl⟩ hl.1 (Nat.le_of_ble_eq_true rfl) hP hD hS zdi_2_38 (fun b8 H locs hP hD hS => ?_)
  refine W.widen (k := 37) (n := 500) (by omega) (by omega) ?_
  have hP : va_P (dC, dI) zCl ([(h0, .inr (2, [.int 0, .int 0, .ref q0])), (q0, .inl (cS, 4, .inr (.inr (.inr (.inr (va_up (va_up (va_up (fun _ => none) 0 (some q1)) 1 (some q3)) 2 (some q5)))))))] ++ zw_S cI q1 b2 ++ zw_S cI q3 b4 ++ zw_S cI q5 b6 ++ zw_S cI q7 b8) H := hP
  have hD : va_D A ([(h0, .inr (2, [.int 0, .int 0, .ref q0])), (q0, .inl (cS, 4, .inr (.inr (.inr (.inr (va_up (va_up (va_up (fun _ => none) 0 (some q1)) 1 (some q3)) 2 (some q5)))))))] ++ zw_S cI q1 b2 ++ zw_S cI q3 b4 ++ zw_S cI q5 b6 ++ zw_S cI q7 b8) := hD
  refine va_astq (D := (dC, dI)) (f := (va_up (va_up (va_up (fun _ => none) 0 (some q1)) 1 (some q3)) 2 (some q5))) hx hb hK hP hD hS 1 2 29 4 rfl rfl rfl rfl (zib_in (by decide)) zdi_2_41 (fun H locs hP hD hS => ?_)
  have hP : va_P (dC, dI) zCl ([(h0, .inr (2, [.int 0, .int 0, .ref q0])), (q0, .inl (cS, 4, .inr (.inr (.inr (.inr (va_up (va_up (va_up (va_up (fun _ => none) 0 (some q1)) 1 (some q3)) 2 (some q5)) 3 (some q7)))))))] ++ zw_S cI q1 b2 ++ zw_S cI q3 b4 ++ zw_S cI q5 b6 ++ zw_S cI q7 b8) H := hP
  have hD : va_D A ([(h0, .inr (2, [.int 0, .int 0, .ref q0])), (q0, .inl (cS, 4, .inr (.inr (.inr (.inr (va_up (va_up (va_up (va_up (fun _ => none) 0 (some q1)) 1 (some q3)) 2 (some q5)) 3 (some q7)))))))] ++ zw_S cI q1 b2 ++ zw_S cI q3 b4 ++ zw_S cI q5 b6 ++ zw_S cI q7 b8) := hD
  refine lv_iinc (v := 4) (lv' := [(1, .int 4), (0, .ref h0)]) hx hb zdi_2_42 hl (k := 0) rfl (by decide) (by decide) rfl (fun ls hl => ?_)
  refine lv_goto (tgt := 24) hx hb zdi_2_45 (by decide) ?_
  refine lv_iload_n hx hb zdi_2_24 rfl (lv_at hl 0 rfl) ?_
  refine lv_iconst (v := 4) hx hb zdi_2_25 (by decide) ?_
  refine lv_icmp_ge (tgt := 48) hx hb zdi_2_26 (by decide) (fun _ => ?_) (fun hq => absurd (by decide) hq)
  refine W.widen (k := 37) (n := 500) (by omega) (by omega) ?_
  exact hend (fun k => [0, q0, q1, (b2 1), (b2 2), (b2 3), (b2 4), (b2 5), (b2 6), (b2 7), (b2 8), q3, (b4 1), (b4 2), (b4 3), (b4 4), (b4 5), (b4 6), (b4 7), (b4 8), q5, (b6 1), (b6 2), (b6 3), (b6 4), (b6 5), (b6 6), (b6 7), (b6 8), q7, (b8 1), (b8 2), (b8 3), (b8 4), (b8 5), (b8 6), (b8 7), (b8 8)].getD k 0) 48 H locs ls zdi_2_48 hP hD hS
theorem zdi_0_0 : decode prog_2_method_1_code 0 = .ok (.aload_n 0, 1) := by decide +kernel
theorem zdi_0_1 : decode prog_2_method_1_code 1 = .ok (.invokespecial 3, 3) := by decide +kernel
theorem zdi_0_4 : decode prog_2_method_1_code 4 = .ok (.aload_n 0, 1) := by decide +kernel
theorem zdi_0_5 : decode prog_2_method_1_code 5 = .ok (.iconst 0, 1) := by decide +kernel
theorem zdi_0_6 : decode prog_2_method_1_code 6 = .ok (.putfield 9, 3) := by decide +kernel
theorem zdi_0_9 : decode prog_2_method_1_code 9 = .ok (.aload_n 0, 1) := by decide +kernel
theorem zdi_0_10 : decode prog_2_method_1_code 10 = .ok (.bipush 60, 2) := by decide +kernel
theorem zdi_0_12 : decode prog_2_method_1_code 12 = .ok (.newarray .char, 2) := by decide +kernel
theorem zdi_0_14 : decode prog_2_method_1_code 14 = .ok (.putfield 15, 3) := by decide +kernel
theorem zdi_0_17 : decode prog_2_method_1_code 17 = .ok (.aload_n 0, 1) := by decide +kernel
theorem zdi_0_18 : decode prog_2_method_1_code 18 = .ok (.iconst 0, 1) := by decide +kernel
theorem zdi_0_19 : decode prog_2_method_1_code 19 = .ok (.putfield 19, 3) := by decide +kernel
theorem zdi_0_22 : decode prog_2_method_1_code 22 = .ok (.aload_n 0, 1) := by decide +kernel
theorem zdi_0_23 : decode prog_2_method_1_code 23 = .ok (.bipush 16, 2) := by decide +kernel
theorem zdi_0_25 : decode prog_2_method_1_code 25 = .ok (.newarray .int, 2) := by decide +kernel
theorem zdi_0_27 : decode prog_2_method_1_code 27 = .ok (.putfield 22, 3) := by decide +kernel
theorem zdi_0_30 : decode prog_2_method_1_code 30 = .ok (.aload_n 0, 1) := by decide +kernel
theorem zdi_0_31 : decode prog_2_method_1_code 31 = .ok (.bipush 16, 2) := by decide +kernel
theorem zdi_0_33 : decode prog_2_method_1_code 33 = .ok (.newarray .int, 2) := by decide +kernel
theorem zdi_0_35 : decode prog_2_method_1_code 35 = .ok (.putfield 26, 3) := by decide +kernel
theorem zdi_0_38 : decode prog_2_method_1_code 38 = .ok (.aload_n 0, 1) := by decide +kernel
theorem zdi_0_39 : decode prog_2_method_1_code 39 = .ok (.bipush 16, 2) := by decide +kernel
theorem zdi_0_41 : decode prog_2_method_1_code 41 = .ok (.newarray .int, 2) := by decide +kernel
theorem zdi_0_43 : decode prog_2_method_1_code 43 = .ok (.putfield 29, 3) := by decide +kernel
theorem zdi_0_46 : decode prog_2_method_1_code 46 = .ok (.return_, 1) := by decide +kernel
set_option maxHeartbeats 4000000 in
set_option maxRecDepth 100000 in
theorem zk_0 (l : Launch) (dC : Nat → ClassId) (dI : Nat → Nat → Nat) (cI cC cS : ClassId) : zKC l dC dI cI cC cS ⟨zR0, "<init>", "()V"⟩ prog_2_method_1_code 1 { frames := 2, cells := 4, slots := 108, locals := 120 } 4 108 0 [.int 0, .null, .int 0, .null, .null, .null] (zw_T cI cC) := by
  refine zk_met (by decide +kernel) rfl (by decide) ?_
  intro h0 p e s m args below meth c A ls Q F hl hP hD hend
  obtain ⟨hx, hb, hml, hown, hts, hK, hNE, hA, hlocks, hret, hnm⟩ := id F
  have hS : va_S A s.heap s.heap [] := va_S.rf
  refine lv_aload_n hx hb zdi_0_0 rfl (lv_at hl 0 rfl) ?_
  refine W.objInit hx hb hown (hts _ (zin 155 rfl rfl)) (hts _ zoi_i) (hts _ zoi_c) rfl (by rw [hml]; exact hl.1) rfl zdi_0_1 (Nat.le_of_ble_eq_true rfl) (Nat.le_of_ble_eq_true rfl) ?_
  refine W.eq (g2 := F0 m 4 ls []) rfl ?_
  refine lv_aload_n hx hb zdi_0_4 rfl (lv_at hl 0 rfl) ?_
  refine lv_iconst (v := 0) hx hb zdi_0_5 (by decide) ?_
  refine zk_put (ci := 0) (k := 0) (fs' := [.int 0, .null, .int 0, .null, .null, .null]) ⟨hx, hb⟩ hown hts hK (by decide) (by decide) hP hD hS (zin 156 rfl rfl) (Or.inl rfl) rfl rfl (Nat.le_of_ble_eq_true rfl) rfl zdi_0_6 (fun H locs hP hD hS => ?_)
  have hP : va_P (dC, dI) zCl ([(h0, .inr (0, [.int 0, .null, .int 0, .null, .null, .null]))]) H := hP
  have hD : va_D A ([(h0, .inr (0, [.int 0, .null, .int 0, .null, .null, .null]))]) := hD
  refine lv_aload_n hx hb zdi_0_9 rfl (lv_at hl 0 rfl) ?_
  refine lv_bipush (v := 60) hx hb zdi_0_10 (by decide) ?_
  refine zk_newC ⟨hx, hb⟩ (hts _ zaC) hK hA hP hD hS (N := 60) (by decide) (by decide) (Nat.le_of_ble_eq_true rfl) (Nat.le_of_ble_eq_true rfl) (Nat.le_of_ble_eq_true rfl) zdi_0_12 (fun q0 H hP hD hS => ?_)
  refine W.widen (k := 1) (n := 60) (by omega) (by omega) ?_
  have hP : va_P (dC, dI) zCl ([(h0, .inr (0, [.int 0, .null, .int 0, .null, .null, .null])), (q0, .inl (cC, 60, .inl (fun _ => 0)))]) H := hP
  have hD : va_D A ([(h0, .inr (0, [.int 0, .null, .int 0, .null, .null, .null])), (q0, .inl (cC, 60, .inl (fun _ => 0)))]) := hD
  refine zk_put (ci := 0) (k := 1) (fs' := [.int 0, .ref q0, .int 0, .null, .null, .null]) ⟨hx, hb⟩ hown hts hK (by decide) (by decide) hP hD hS (zin 158 rfl rfl) (Or.inr ⟨rfl, hnm, rfl⟩) rfl rfl (Nat.le_of_ble_eq_true rfl) rfl zdi_0_14 (fun H locs hP hD hS => ?_)
  have hP : va_P (dC, dI) zCl ([(h0, .inr (0, [.int 0, .ref q0, .int 0, .null, .null, .null])), (q0, .inl (cC, 60, .inl (fun _ => 0)))]) H := hP
  have hD : va_D A ([(h0, .inr (0, [.int 0, .ref q0, .int 0, .null, .null, .null])), (q0, .inl (cC, 60, .inl (fun _ => 0)))]) := hD
  refine lv_aload_n hx hb zdi_0_17 rfl (lv_at hl 0 rfl) ?_
  refine lv_iconst (v := 0) hx hb zdi_0_18 (by decide) ?_
  refine zk_put (ci := 0) (k := 2) (fs' := [.int 0, .ref q0, .int 0, .null, .null, .null]) ⟨hx, hb⟩ hown hts hK (by decide) (by decide) hP hD hS (zin 159 rfl rfl) (Or.inl rfl) rfl rfl (Nat.le_of_ble_eq_true rfl) rfl zdi_0_19 (fun H locs hP hD hS => ?_)
  have hP : va_P (dC, dI) zCl ([(h0, .inr (0, [.int 0, .ref q0, .int 0, .null, .null, .null])), (q0, .inl (cC, 60, .inl (fun _ => 0)))]) H := hP
  have hD : va_D A ([(h0, .inr (0, [.int 0, .ref q0, .int 0, .null, .null, .null])), (q0, .inl (cC, 60, .inl (fun _ => 0)))]) := hD
  refine lv_aload_n hx hb zdi_0_22 rfl (lv_at hl 0 rfl) ?_
  refine lv_bipush (v := 16) hx hb zdi_0_23 (by decide) ?_
  refine zk_newI ⟨hx, hb⟩ (hts _ zaI) hK hA hP hD hS (N := 16) (by decide) (by decide) (Nat.le_of_ble_eq_true rfl) (Nat.le_of_ble_eq_true rfl) (Nat.le_of_ble_eq_true rfl) zdi_0_25 (fun q1 H hP hD hS => ?_)
  refine W.widen (k := 2) (n := 76) (by omega) (by omega) ?_
  have hP : va_P (dC, dI) zCl ([(h0, .inr (0, [.int 0, .ref q0, .int 0, .null, .null, .null])), (q0, .inl (cC, 60, .inl (fun _ => 0))), (q1, .inl (cI, 16, .inl (fun _ => 0)))]) H := hP
  have hD : va_D A ([(h0, .inr (0, [.int 0, .ref q0, .int 0, .null, .null, .null])), (q0, .inl (cC, 60, .inl (fun _ => 0))), (q1, .inl (cI, 16, .inl (fun _ => 0)))]) := hD
  refine zk_put (ci := 0) (k := 3) (fs' := [.int 0, .ref q0, .int 0, .ref q1, .null, .null]) ⟨hx, hb⟩ hown hts hK (by decide) (by decide) hP hD hS (zin 161 rfl rfl) (Or.inr ⟨rfl, hnm, rfl⟩) rfl rfl (Nat.le_of_ble_eq_true rfl) rfl zdi_0_27 (fun H locs hP hD hS => ?_)
  have hP : va_P (dC, dI) zCl ([(h0, .inr (0, [.int 0, .ref q0, .int 0, .ref q1, .null, .null])), (q0, .inl (cC, 60, .inl (fun _ => 0))), (q1, .inl (cI, 16, .inl (fun _ => 0)))]) H := hP
  have hD : va_D A ([(h0, .inr (0, [.int 0, .ref q0, .int 0, .ref q1, .null, .null])), (q0, .inl (cC, 60, .inl (fun _ => 0))), (q1, .inl (cI, 16, .inl (fun _ => 0)))]) := hD
  refine lv_aload_n hx hb zdi_0_30 rfl (lv_at hl 0 rfl) ?_
  refine lv_bipush (v := 16) hx hb zdi_0_31 (by decide) ?_
  refine zk_newI ⟨hx, hb⟩ (hts _ zaI) hK hA hP hD hS (N := 16) (by decide) (by decide) (Nat.le_of_ble_eq_true rfl) (Nat.le_of_ble_eq_true rfl) (Nat.le_of_ble_eq_true rfl) zdi_0_33 (fun q2 H hP hD hS => ?_)
  refine W.widen (k := 3) (n := 92) (by omega) (by omega) ?_
  have hP : va_P (dC, dI) zCl ([(h0, .inr (0, [.int 0, .ref q0, .int 0, .ref q1, .null, .null])), (q0, .inl (cC, 60, .inl (fun _ => 0))), (q1, .inl (cI, 16, .inl (fun _ => 0))), (q2, .inl (cI, 16, .inl (fun _ => 0)))]) H := hP
  have hD : va_D A ([(h0, .inr (0, [.int 0, .ref q0, .int 0, .ref q1, .null, .null])), (q0, .inl (cC, 60, .inl (fun _ => 0))), (q1, .inl (cI, 16, .inl (fun _ => 0))), (q2, .inl (cI, 16, .inl (fun _ => 0)))]) := hD
  refine zk_put (ci := 0) (k := 4) (fs' := [.int 0, .ref q0, .int 0, .ref q1, .ref q2, .null]) ⟨hx, hb⟩ hown hts hK (by decide) (by decide) hP hD hS (zin 163 rfl rfl) (Or.inr ⟨rfl, hnm, rfl⟩) rfl rfl (Nat.le_of_ble_eq_true rfl) rfl zdi_0_35 (fun H locs hP hD hS => ?_)
  have hP : va_P (dC, dI) zCl ([(h0, .inr (0, [.int 0, .ref q0, .int 0, .ref q1, .ref q2, .null])), (q0, .inl (cC, 60, .inl (fun _ => 0))), (q1, .inl (cI, 16, .inl (fun _ => 0))), (q2, .inl (cI, 16, .inl (fun _ => 0)))]) H := hP
  have hD : va_D A ([(h0, .inr (0, [.int 0, .ref q0, .int 0, .ref q1, .ref q2, .null])), (q0, .inl (cC, 60, .inl (fun _ => 0))), (q1, .inl (cI, 16, .inl (fun _ => 0))), (q2, .inl (cI, 16, .inl (fun _ => 0)))]) := hD
  refine lv_aload_n hx hb zdi_0_38 rfl (lv_at hl 0 rfl) ?_
  refine lv_bipush (v := 16) hx hb zdi_0_39 (by decide) ?_
  refine zk_newI ⟨hx, hb⟩ (hts _ zaI) hK hA hP hD hS (N := 16) (by decide) (by decide) (Nat.le_of_ble_eq_true rfl) (Nat.le_of_ble_eq_true rfl) (Nat.le_of_ble_eq_true rfl) zdi_0_41 (fun q3 H hP hD hS => ?_)
  refine W.widen (k := 4) (n := 108) (by omega) (by omega) ?_
  have hP : va_P (dC, dI) zCl ([(h0, .inr (0, [.int 0, .ref q0, .int 0, .ref q1, .ref q2, .null])), (q0, .inl (cC, 60, .inl (fun _ => 0))), (q1, .inl (cI, 16, .inl (fun _ => 0))), (q2, .inl (cI, 16, .inl (fun _ => 0))), (q3, .inl (cI, 16, .inl (fun _ => 0)))]) H := hP
  have hD : va_D A ([(h0, .inr (0, [.int 0, .ref q0, .int 0, .ref q1, .ref q2, .null])), (q0, .inl (cC, 60, .inl (fun _ => 0))), (q1, .inl (cI, 16, .inl (fun _ => 0))), (q2, .inl (cI, 16, .inl (fun _ => 0))), (q3, .inl (cI, 16, .inl (fun _ => 0)))]) := hD
  refine zk_put (ci := 0) (k := 5) (fs' := [.int 0, .ref q0, .int 0, .ref q1, .ref q2, .ref q3]) ⟨hx, hb⟩ hown hts hK (by decide) (by decide) hP hD hS (zin 165 rfl rfl) (Or.inr ⟨rfl, hnm, rfl⟩) rfl rfl (Nat.le_of_ble_eq_true rfl) rfl zdi_0_43 (fun H locs hP hD hS => ?_)
  have hP : va_P (dC, dI) zCl ([(h0, .inr (0, [.int 0, .ref q0, .int 0, .ref q1, .ref q2, .ref q3])), (q0, .inl (cC, 60, .inl (fun _ => 0))), (q1, .inl (cI, 16, .inl (fun _ => 0))), (q2, .inl (cI, 16, .inl (fun _ => 0))), (q3, .inl (cI, 16, .inl (fun _ => 0)))]) H := hP
  have hD : va_D A ([(h0, .inr (0, [.int 0, .ref q0, .int 0, .ref q1, .ref q2, .ref q3])), (q0, .inl (cC, 60, .inl (fun _ => 0))), (q1, .inl (cI, 16, .inl (fun _ => 0))), (q2, .inl (cI, 16, .inl (fun _ => 0))), (q3, .inl (cI, 16, .inl (fun _ => 0)))]) := hD
  refine W.widen (k := 4) (n := 108) (by omega) (by omega) ?_
  exact hend (fun k => [0, q0, q1, q2, q3].getD k 0) 46 H locs ls zdi_0_46 hP hD hS
theorem zdi_3_0 : decode prog_5_method_1_code 0 = .ok (.aload_n 0, 1) := by decide +kernel
theorem zdi_3_1 : decode prog_5_method_1_code 1 = .ok (.invokespecial 3, 3) := by decide +kernel
theorem zdi_3_4 : decode prog_5_method_1_code 4 = .ok (.aload_n 0, 1) := by decide +kernel
theorem zdi_3_5 : decode prog_5_method_1_code 5 = .ok (.new 9, 3) := by decide +kernel
theorem zdi_3_8 : decode prog_5_method_1_code 8 = .ok (.dup, 1) := by decide +kernel
theorem zdi_3_9 : decode prog_5_method_1_code 9 = .ok (.invokespecial 11, 3) := by decide +kernel
theorem zdi_3_12 : decode prog_5_method_1_code 12 = .ok (.putfield 12, 3) := by decide +kernel
theorem zdi_3_15 : decode prog_5_method_1_code 15 = .ok (.aload_n 0, 1) := by decide +kernel
theorem zdi_3_16 : decode prog_5_method_1_code 16 = .ok (.bipush 8, 2) := by decide +kernel
theorem zdi_3_18 : decode prog_5_method_1_code 18 = .ok (.newarray .int, 2) := by decide +kernel
theorem zdi_3_20 : decode prog_5_method_1_code 20 = .ok (.putfield 18, 3) := by decide +kernel
theorem zdi_3_23 : decode prog_5_method_1_code 23 = .ok (.aload_n 0, 1) := by decide +kernel
theorem zdi_3_24 : decode prog_5_method_1_code 24 = .ok (.bipush 8, 2) := by decide +kernel
theorem zdi_3_26 : decode prog_5_method_1_code 26 = .ok (.newarray .int, 2) := by decide +kernel
theorem zdi_3_28 : decode prog_5_method_1_code 28 = .ok (.putfield 22, 3) := by decide +kernel
theorem zdi_3_31 : decode prog_5_method_1_code 31 = .ok (.aload_n 0, 1) := by decide +kernel
theorem zdi_3_32 : decode prog_5_method_1_code 32 = .ok (.bipush 8, 2) := by decide +kernel
theorem zdi_3_34 : decode prog_5_method_1_code 34 = .ok (.newarray .int, 2) := by decide +kernel
theorem zdi_3_36 : decode prog_5_method_1_code 36 = .ok (.putfield 25, 3) := by decide +kernel
theorem zdi_3_39 : decode prog_5_method_1_code 39 = .ok (.aload_n 0, 1) := by decide +kernel
theorem zdi_3_40 : decode prog_5_method_1_code 40 = .ok (.bipush 8, 2) := by decide +kernel
theorem zdi_3_42 : decode prog_5_method_1_code 42 = .ok (.newarray .int, 2) := by decide +kernel
theorem zdi_3_44 : decode prog_5_method_1_code 44 = .ok (.putfield 28, 3) := by decide +kernel
theorem zdi_3_47 : decode prog_5_method_1_code 47 = .ok (.aload_n 0, 1) := by decide +kernel
theorem zdi_3_48 : decode prog_5_method_1_code 48 = .ok (.iconst 0, 1) := by decide +kernel
theorem zdi_3_49 : decode prog_5_method_1_code 49 = .ok (.putfield 31, 3) := by decide +kernel
theorem zdi_3_52 : decode prog_5_method_1_code 52 = .ok (.aload_n 0, 1) := by decide +kernel
theorem zdi_3_53 : decode prog_5_method_1_code 53 = .ok (.iconst 0, 1) := by decide +kernel
theorem zdi_3_54 : decode prog_5_method_1_code 54 = .ok (.putfield 35, 3) := by decide +kernel
theorem zdi_3_57 : decode prog_5_method_1_code 57 = .ok (.return_, 1) := by decide +kernel
set_option maxHeartbeats 4000000 in
set_option maxRecDepth 100000 in
theorem zk_3 (l : Launch) (dC : Nat → ClassId) (dI : Nat → Nat → Nat) (cI cC cS : ClassId) : zKC l dC dI cI cC cS ⟨zR3, "<init>", "()V"⟩ prog_5_method_1_code 1 { frames := 4, cells := 13, slots := 156, locals := 240 } 13 156 3 [.null, .null, .null, .null, .null, .int 0, .int 0] (zw_R cI) := by
  refine zk_met (by decide +kernel) rfl (by decide) ?_
  intro h0 p e s m args below meth c A ls Q F hl hP hD hend
  obtain ⟨hx, hb, hml, hown, hts, hK, hNE, hA, hlocks, hret, hnm⟩ := id F
  have hS : va_S A s.heap s.heap [] := va_S.rf
  refine lv_aload_n hx hb zdi_3_0 rfl (lv_at hl 0 rfl) ?_
  refine W.objInit hx hb hown (hts _ (zin 186 rfl rfl)) (hts _ zoi_i) (hts _ zoi_c) rfl (by rw [hml]; exact hl.1) rfl zdi_3_1 (Nat.le_of_ble_eq_true rfl) (Nat.le_of_ble_eq_true rfl) ?_
  refine W.eq (g2 := F0 m 4 ls []) rfl ?_
  refine lv_aload_n hx hb zdi_3_4 rfl (lv_at hl 0 rfl) ?_
  refine va_new (D := (dC, dI)) (ci := 4) (fs := [.int 0, .int 0, .int 0, .null, .null, .null, .null, .null]) (C := zR4) (T := zT4) (N := 8) hx hb hts zlw4 zY4 zY4_ok hown (hts _ (zin 187 rfl rfl)) (hts _ (zin 61 rfl rfl)) (hts _ (zin 43 rfl rfl)) hK hP hD hS hA rfl (fun j hj => by rcases (show j = 0 ∨ j = 1 ∨ j = 2 ∨ j = 3 ∨ j = 4 ∨ j = 5 ∨ j = 6 ∨ j = 7 by omega) with rfl | rfl | rfl | rfl | rfl | rfl | rfl | rfl <;> rfl) (Nat.le_of_ble_eq_true rfl) (Nat.le_of_ble_eq_true rfl) zdi_3_5 (fun q0 H hP hD hS => ?_)
  refine W.widen (k := 1) (n := 8) (by omega) (by omega) ?_
  refine lv_dup hx hb zdi_3_8 rfl ?_
  refine zk_call (ws := [(h0, .inr (3, [.null, .null, .null, .null, .null, .int 0, .int 0]))]) F (zk_4 l dC dI cI cC cS) (Or.inl (zin 188 rfl rfl)) (zin 43 rfl rfl) (zin 63 rfl rfl) (zin 64 rfl rfl) rfl ⟨by decide +kernel, by decide +kernel, by decide +kernel⟩ rfl rfl ⟨Nat.le_of_ble_eq_true rfl, Nat.le_of_ble_eq_true rfl⟩ ⟨Nat.le_of_ble_eq_true rfl, Nat.le_of_ble_eq_true rfl⟩ hl.1 (Nat.le_of_ble_eq_true rfl) hP hD hS zdi_3_9 (fun b1 H locs hP hD hS => ?_)
  refine W.widen (k := 9) (n := 124) (by omega) (by omega) ?_
  have hP : va_P (dC, dI) zCl ([(h0, .inr (3, [.null, .null, .null, .null, .null, .int 0, .int 0]))] ++ zw_S cI q0 b1) H := hP
  have hD : va_D A ([(h0, .inr (3, [.null, .null, .null, .null, .null, .int 0, .int 0]))] ++ zw_S cI q0 b1) := hD
  refine zk_put (ci := 3) (k := 0) (fs' := [.ref q0, .null, .null, .null, .null, .int 0, .int 0]) ⟨hx, hb⟩ hown hts hK (by decide) (by decide) hP hD hS (zin 189 rfl rfl) (Or.inr ⟨rfl, hnm, rfl⟩) rfl rfl (Nat.le_of_ble_eq_true rfl) rfl zdi_3_12 (fun H locs hP hD hS => ?_)
  have hP : va_P (dC, dI) zCl ([(h0, .inr (3, [.ref q0, .null, .null, .null, .null, .int 0, .int 0]))] ++ zw_S cI q0 b1) H := hP
  have hD : va_D A ([(h0, .inr (3, [.ref q0, .null, .null, .null, .null, .int 0, .int 0]))] ++ zw_S cI q0 b1) := hD
  refine lv_aload_n hx hb zdi_3_15 rfl (lv_at hl 0 rfl) ?_
  refine lv_bipush (v := 8) hx hb zdi_3_16 (by decide) ?_
  refine zk_newI ⟨hx, hb⟩ (hts _ zaI) hK hA hP hD hS (N := 8) (by decide) (by decide) (Nat.le_of_ble_eq_true rfl) (Nat.le_of_ble_eq_true rfl) (Nat.le_of_ble_eq_true rfl) zdi_3_18 (fun q2 H hP hD hS => ?_)
  refine W.widen (k := 10) (n := 132) (by omega) (by omega) ?_
  have hP : va_P (dC, dI) zCl ([(h0, .inr (3, [.ref q0, .null, .null, .null, .null, .int 0, .int 0]))] ++ zw_S cI q0 b1 ++ [(q2, .inl (cI, 8, .inl (fun _ => 0)))]) H := hP
  have hD : va_D A ([(h0, .inr (3, [.ref q0, .null, .null, .null, .null, .int 0, .int 0]))] ++ zw_S cI q0 b1 ++ [(q2, .inl (cI, 8, .inl (fun _ => 0)))]) := hD
  refine zk_put (ci := 3) (k := 1) (fs' := [.ref q0, .ref q2, .null, .null, .null, .int 0, .int 0]) ⟨hx, hb⟩ hown hts hK (by decide) (by decide) hP hD hS (zin 190 rfl rfl) (Or.inr ⟨rfl, hnm, rfl⟩) rfl rfl (Nat.le_of_ble_eq_true rfl) rfl zdi_3_20 (fun H locs hP hD hS => ?_)
  have hP : va_P (dC, dI) zCl ([(h0, .inr (3, [.ref q0, .ref q2, .null, .null, .null, .int 0, .int 0]))] ++ zw_S cI q0 b1 ++ [(q2, .inl (cI, 8, .inl (fun _ => 0)))]) H := hP
  have hD : va_D A ([(h0, .inr (3, [.ref q0, .ref q2, .null, .null, .null, .int 0, .int 0]))] ++ zw_S cI q0 b1 ++ [(q2, .inl (cI, 8, .inl (fun _ => 0)))]) := hD
  refine lv_aload_n hx hb zdi_3_23 rfl (lv_at hl 0 rfl) ?_
  refine lv_bipush (v := 8) hx hb zdi_3_24 (by decide) ?_
  refine zk_newI ⟨hx, hb⟩ (hts _ zaI) hK hA hP hD hS (N := 8) (by decide) (by decide) (Nat.le_of_ble_eq_true rfl) (Nat.le_of_ble_eq_true rfl) (Nat.le_of_ble_eq_true rfl) zdi_3_26 (fun q3 H hP hD hS => ?_)
  refine W.widen (k := 11) (n := 140) (by omega) (by omega) ?_
  have hP : va_P (dC, dI) zCl ([(h0, .inr (3, [.ref q0, .ref q2, .null, .null, .null, .int 0, .int 0]))] ++ zw_S cI q0 b1 ++ [(q2, .inl (cI, 8, .inl (fun _ => 0))), (q3, .inl (cI, 8, .inl (fun _ => 0)))]) H := hP
  have hD : va_D A ([(h0, .inr (3, [.ref q0, .ref q2, .null, .null, .null, .int 0, .int 0]))] ++ zw_S cI q0 b1 ++ [(q2, .inl (cI, 8, .inl (fun _ => 0))), (q3, .inl (cI, 8, .inl (fun _ => 0)))]) := hD
  refine zk_put (ci := 3) (k := 2) (fs' := [.ref q0, .ref q2, .ref q3, .null, .null, .int 0, .int 0]) ⟨hx, hb⟩ hown hts hK (by decide) (by decide) hP hD hS (zin 192 rfl rfl) (Or.inr ⟨rfl, hnm, rfl⟩) rfl rfl (Nat.le_of_ble_eq_true rfl) rfl zdi_3_28 (fun H locs hP hD hS => ?_)
  have hP : va_P (dC, dI) zCl ([(h0, .inr (3, [.ref q0, .ref q2, .ref q3, .null, .null, .int 0, .int 0]))] ++ zw_S cI q0 b1 ++ [(q2, .inl (cI, 8, .inl (fun _ => 0))), (q3, .inl (cI, 8, .inl (fun _ => 0)))]) H := hP
  have hD : va_D A ([(h0, .inr (3, [.ref q0, .ref q2, .ref q3, .null, .null, .int 0, .int 0]))] ++ zw_S cI q0 b1 ++ [(q2, .inl (cI, 8, .inl (fun _ => 0))), (q3, .inl (cI, 8, .inl (fun _ => 0)))]) := hD
  refine lv_aload_n hx hb zdi_3_31 rfl (lv_at hl 0 rfl) ?_
  refine lv_bipush (v := 8) hx hb zdi_3_32 (by decide) ?_
  refine zk_newI ⟨hx, hb⟩ (hts _ zaI) hK hA hP hD hS (N := 8) (by decide) (by decide) (Nat.le_of_ble_eq_true rfl) (Nat.le_of_ble_eq_true rfl) (Nat.le_of_ble_eq_true rfl) zdi_3_34 (fun q4 H hP hD hS => ?_)
  refine W.widen (k := 12) (n := 148) (by omega) (by omega) ?_
  have hP : va_P (dC, dI) zCl ([(h0, .inr (3, [.ref q0, .ref q2, .ref q3, .null, .null, .int 0, .int 0]))] ++ zw_S cI q0 b1 ++ [(q2, .inl (cI, 8, .inl (fun _ => 0))), (q3, .inl (cI, 8, .inl (fun _ => 0))), (q4, .inl (cI, 8, .inl (fun _ => 0)))]) H := hP
  have hD : va_D A ([(h0, .inr (3, [.ref q0, .ref q2, .ref q3, .null, .null, .int 0, .int 0]))] ++ zw_S cI q0 b1 ++ [(q2, .inl (cI, 8, .inl (fun _ => 0))), (q3, .inl (cI, 8, .inl (fun _ => 0))), (q4, .inl (cI, 8, .inl (fun _ => 0)))]) := hD
  refine zk_put (ci := 3) (k := 3) (fs' := [.ref q0, .ref q2, .ref q3, .ref q4, .null, .int 0, .int 0]) ⟨hx, hb⟩ hown hts hK (by decide) (by decide) hP hD hS (zin 193 rfl rfl) (Or.inr ⟨rfl, hnm, rfl⟩) rfl rfl (Nat.le_of_ble_eq_true rfl) rfl zdi_3_36 (fun H locs hP hD hS => ?_)
  have hP : va_P (dC, dI) zCl ([(h0, .inr (3, [.ref q0, .ref q2, .ref q3, .ref q4, .null, .int 0, .int 0]))] ++ zw_S cI q0 b1 ++ [(q2, .inl (cI, 8, .inl (fun _ => 0))), (q3, .inl (cI, 8, .inl (fun _ => 0))), (q4, .inl (cI, 8, .inl (fun _ => 0)))]) H := hP
  have hD : va_D A ([(h0, .inr (3, [.ref q0, .ref q2, .ref q3, .ref q4, .null, .int 0, .int 0]))] ++ zw_S cI q0 b1 ++ [(q2, .inl (cI, 8, .inl (fun _ => 0))), (q3, .inl (cI, 8, .inl (fun _ => 0))), (q4, .inl (cI, 8, .inl (fun _ => 0)))]) := hD
  refine lv_aload_n hx hb zdi_3_39 rfl (lv_at hl 0 rfl) ?_
  refine lv_bipush (v := 8) hx hb zdi_3_40 (by decide) ?_
  refine zk_newI ⟨hx, hb⟩ (hts _ zaI) hK hA hP hD hS (N := 8) (by decide) (by decide) (Nat.le_of_ble_eq_true rfl) (Nat.le_of_ble_eq_true rfl) (Nat.le_of_ble_eq_true rfl) zdi_3_42 (fun q5 H hP hD hS => ?_)
  refine W.widen (k := 13) (n := 156) (by omega) (by omega) ?_
  have hP : va_P (dC, dI) zCl ([(h0, .inr (3, [.ref q0, .ref q2, .ref q3, .ref q4, .null, .int 0, .int 0]))] ++ zw_S cI q0 b1 ++ [(q2, .inl (cI, 8, .inl (fun _ => 0))), (q3, .inl (cI, 8, .inl (fun _ => 0))), (q4, .inl (cI, 8, .inl (fun _ => 0))), (q5, .inl (cI, 8, .inl (fun _ => 0)))]) H := hP
  have hD : va_D A ([(h0, .inr (3, [.ref q0, .ref q2, .ref q3, .ref q4, .null, .int 0, .int 0]))] ++ zw_S cI q0 b1 ++ [(q2, .inl (cI, 8, .inl (fun _ => 0))), (q3, .inl (cI, 8, .inl (fun _ => 0))), (q4, .inl (cI, 8, .inl (fun _ => 0))), (q5, .inl (cI, 8, .inl (fun _ => 0)))]) := hD
  refine zk_put (ci := 3) (k := 4) (fs' := [.ref q0, .ref q2, .ref q3, .ref q4, .ref q5, .int 0, .int 0]) ⟨hx, hb⟩ hown hts hK (by decide) (by decide) hP hD hS (zin 194 rfl rfl) (Or.inr ⟨rfl, hnm, rfl⟩) rfl rfl (Nat.le_of_ble_eq_true rfl) rfl zdi_3_44 (fun H locs hP hD hS => ?_)
  have hP : va_P (dC, dI) zCl ([(h0, .inr (3, [.ref q0, .ref q2, .ref q3, .ref q4, .ref q5, .int 0, .int 0]))] ++ zw_S cI q0 b1 ++ [(q2, .inl (cI, 8, .inl (fun _ => 0))), (q3, .inl (cI, 8, .inl (fun _ => 0))), (q4, .inl (cI, 8, .inl (fun _ => 0))), (q5, .inl (cI, 8, .inl (fun _ => 0)))]) H := hP
  have hD : va_D A ([(h0, .inr (3, [.ref q0, .ref q2, .ref q3, .ref q4, .ref q5, .int 0, .int 0]))] ++ zw_S cI q0 b1 ++ [(q2, .inl (cI, 8, .inl (fun _ => 0))), (q3, .inl (cI, 8, .inl (fun _ => 0))), (q4, .inl (cI, 8, .inl (fun _ => 0))), (q5, .inl (cI, 8, .inl (fun _ => 0)))]) := hD
  refine lv_aload_n hx hb zdi_3_47 rfl (lv_at hl 0 rfl) ?_
  refine lv_iconst (v := 0) hx hb zdi_3_48 (by decide) ?_
  refine zk_put (ci := 3) (k := 5) (fs' := [.ref q0, .ref q2, .ref q3, .ref q4, .ref q5, .int 0, .int 0]) ⟨hx, hb⟩ hown hts hK (by decide) (by decide) hP hD hS (zin 196 rfl rfl) (Or.inl rfl) rfl rfl (Nat.le_of_ble_eq_true rfl) rfl zdi_3_49 (fun H locs hP hD hS => ?_)
  have hP : va_P (dC, dI) zCl ([(h0, .inr (3, [.ref q0, .ref q2, .ref q3, .ref q4, .ref q5, .int 0, .int 0]))] ++ zw_S cI q0 b1 ++ [(q2, .inl (cI, 8, .inl (fun _ => 0))), (q3, .inl (cI, 8, .inl (fun _ => 0))), (q4, .inl (cI, 8, .inl (fun _ => 0))), (q5, .inl (cI, 8, .inl (fun _ => 0)))]) H := hP
  have hD : va_D A ([(h0, .inr (3, [.ref q0, .ref q2, .ref q3, .ref q4, .ref q5, .int 0, .int 0]))] ++ zw_S cI q0 b1 ++ [(q2, .inl (cI, 8, .inl (fun _ => 0))), (q3, .inl (cI, 8, .inl (fun _ => 0))), (q4, .inl (cI, 8, .inl (fun _ => 0))), (q5, .inl (cI, 8, .inl (fun _ => 0)))]) := hD
  refine lv_aload_n hx hb zdi_3_52 rfl (lv_at hl 0 rfl) ?_
  refine lv_iconst (v := 0) hx hb zdi_3_53 (by decide) ?_
  refine zk_put (ci := 3) (k := 6) (fs' := [.ref q0, .ref q2, .ref q3, .ref q4, .ref q5, .int 0, .int 0]) ⟨hx, hb⟩ hown hts hK (by decide) (by decide) hP hD hS (zin 198 rfl rfl) (Or.inl rfl) rfl rfl (Nat.le_of_ble_eq_true rfl) rfl zdi_3_54 (fun H locs hP hD hS => ?_)
  have hP : va_P (dC, dI) zCl ([(h0, .inr (3, [.ref q0, .ref q2, .ref q3, .ref q4, .ref q5, .int 0, .int 0]))] ++ zw_S cI q0 b1 ++ [(q2, .inl (cI, 8, .inl (fun _ => 0))), (q3, .inl (cI, 8, .inl (fun _ => 0))), (q4, .inl (cI, 8, .inl (fun _ => 0))), (q5, .inl (cI, 8, .inl (fun _ => 0)))]) H := hP
  have hD : va_D A ([(h0, .inr (3, [.ref q0, .ref q2, .ref q3, .ref q4, .ref q5, .int 0, .int 0]))] ++ zw_S cI q0 b1 ++ [(q2, .inl (cI, 8, .inl (fun _ => 0))), (q3, .inl (cI, 8, .inl (fun _ => 0))), (q4, .inl (cI, 8, .inl (fun _ => 0))), (q5, .inl (cI, 8, .inl (fun _ => 0)))]) := hD
  refine W.widen (k := 13) (n := 156) (by omega) (by omega) ?_
  exact hend (fun k => [0, q0, (b1 1), (b1 2), (b1 3), (b1 4), (b1 5), (b1 6), (b1 7), (b1 8), q2, q3, q4, q5].getD k 0) 57 H locs ls zdi_3_57 hP hD hS
theorem zdi_5_0 : decode prog_1_method_1_code 0 = .ok (.aload_n 0, 1) := by decide +kernel
theorem zdi_5_1 : decode prog_1_method_1_code 1 = .ok (.invokespecial 1, 3) := by decide +kernel
theorem zdi_5_4 : decode prog_1_method_1_code 4 = .ok (.aload_n 0, 1) := by decide +kernel
theorem zdi_5_5 : decode prog_1_method_1_code 5 = .ok (.new 7, 3) := by decide +kernel
theorem zdi_5_8 : decode prog_1_method_1_code 8 = .ok (.dup, 1) := by decide +kernel
theorem zdi_5_9 : decode prog_1_method_1_code 9 = .ok (.invokespecial 9, 3) := by decide +kernel
theorem zdi_5_12 : decode prog_1_method_1_code 12 = .ok (.putfield 10, 3) := by decide +kernel
theorem zdi_5_15 : decode prog_1_method_1_code 15 = .ok (.aload_n 0, 1) := by decide +kernel
theorem zdi_5_16 : decode prog_1_method_1_code 16 = .ok (.new 7, 3) := by decide +kernel
theorem zdi_5_19 : decode prog_1_method_1_code 19 = .ok (.dup, 1) := by decide +kernel
theorem zdi_5_20 : decode prog_1_method_1_code 20 = .ok (.invokespecial 9, 3) := by decide +kernel
theorem zdi_5_23 : decode prog_1_method_1_code 23 = .ok (.putfield 16, 3) := by decide +kernel
theorem zdi_5_26 : decode prog_1_method_1_code 26 = .ok (.aload_n 0, 1) := by decide +kernel
theorem zdi_5_27 : decode prog_1_method_1_code 27 = .ok (.iconst 0, 1) := by decide +kernel
theorem zdi_5_28 : decode prog_1_method_1_code 28 = .ok (.putfield 19, 3) := by decide +kernel
theorem zdi_5_31 : decode prog_1_method_1_code 31 = .ok (.aload_n 0, 1) := by decide +kernel
theorem zdi_5_32 : decode prog_1_method_1_code 32 = .ok (.new 23, 3) := by decide +kernel
theorem zdi_5_35 : decode prog_1_method_1_code 35 = .ok (.dup, 1) := by decide +kernel
theorem zdi_5_36 : decode prog_1_method_1_code 36 = .ok (.invokespecial 25, 3) := by decide +kernel
theorem zdi_5_39 : decode prog_1_method_1_code 39 = .ok (.putfield 26, 3) := by decide +kernel
theorem zdi_5_42 : decode prog_1_method_1_code 42 = .ok (.aload_n 0, 1) := by decide +kernel
theorem zdi_5_43 : decode prog_1_method_1_code 43 = .ok (.new 30, 3) := by decide +kernel
theorem zdi_5_46 : decode prog_1_method_1_code 46 = .ok (.dup, 1) := by decide +kernel
theorem zdi_5_47 : decode prog_1_method_1_code 47 = .ok (.invokespecial 32, 3) := by decide +kernel
theorem zdi_5_50 : decode prog_1_method_1_code 50 = .ok (.putfield 33, 3) := by decide +kernel
theorem zdi_5_53 : decode prog_1_method_1_code 53 = .ok (.aload_n 0, 1) := by decide +kernel
theorem zdi_5_54 : decode prog_1_method_1_code 54 = .ok (.new 37, 3) := by decide +kernel
theorem zdi_5_57 : decode prog_1_method_1_code 57 = .ok (.dup, 1) := by decide +kernel
theorem zdi_5_58 : decode prog_1_method_1_code 58 = .ok (.invokespecial 39, 3) := by decide +kernel
theorem zdi_5_61 : decode prog_1_method_1_code 61 = .ok (.putfield 40, 3) := by decide +kernel
theorem zdi_5_64 : decode prog_1_method_1_code 64 = .ok (.return_, 1) := by decide +kernel
set_option maxHeartbeats 4000000 in
set_option maxRecDepth 100000 in
theorem zk_5 (l : Launch) (dC : Nat → ClassId) (dI : Nat → Nat → Nat) (cI cC cS : ClassId) : zKC l dC dI cI cC cS ⟨zR5, "<init>", "()V"⟩ prog_1_method_1_code 1 { frames := 5, cells := 75, slots := 1028, locals := 300 } 75 1028 5 [.null, .null, .int 0, .null, .null, .null] (zw_P cI cC cS) := by
  refine zk_met (by decide +kernel) rfl (by decide) ?_
  intro h0 p e s m args below meth c A ls Q F hl hP hD hend
  obtain ⟨hx, hb, hml, hown, hts, hK, hNE, hA, hlocks, hret, hnm⟩ := id F
  have hS : va_S A s.heap s.heap [] := va_S.rf
  refine lv_aload_n hx hb zdi_5_0 rfl (lv_at hl 0 rfl) ?_
  refine W.objInit hx hb hown (hts _ (zin 57 rfl rfl)) (hts _ zoi_i) (hts _ zoi_c) rfl (by rw [hml]; exact hl.1) rfl zdi_5_1 (Nat.le_of_ble_eq_true rfl) (Nat.le_of_ble_eq_true rfl) ?_
  refine W.eq (g2 := F0 m 4 ls []) rfl ?_
  refine lv_aload_n hx hb zdi_5_4 rfl (lv_at hl 0 rfl) ?_
  refine va_new (D := (dC, dI)) (ci := 4) (fs := [.int 0, .int 0, .int 0, .null, .null, .null, .null, .null]) (C := zR4) (T := zT4) (N := 8) hx hb hts zlw4 zY4 zY4_ok hown (hts _ (zin 60 rfl rfl)) (hts _ (zin 61 rfl rfl)) (hts _ (zin 43 rfl rfl)) hK hP hD hS hA rfl (fun j hj => by rcases (show j = 0 ∨ j = 1 ∨ j = 2 ∨ j = 3 ∨ j = 4 ∨ j = 5 ∨ j = 6 ∨ j = 7 by omega) with rfl | rfl | rfl | rfl | rfl | rfl | rfl | rfl <;> rfl) (Nat.le_of_ble_eq_true rfl) (Nat.le_of_ble_eq_true rfl) zdi_5_5 (fun q0 H hP hD hS => ?_)
  refine W.widen (k := 1) (n := 8) (by omega) (by omega) ?_
  refine lv_dup hx hb zdi_5_8 rfl ?_
  refine zk_call (ws := [(h0, .inr (5, [.null, .null, .int 0, .null, .null, .null]))]) F (zk_4 l dC dI cI cC cS) (Or.inl (zin 62 rfl rfl)) (zin 43 rfl rfl) (zin 63 rfl rfl) (zin 64 rfl rfl) rfl ⟨by decide +kernel, by decide +kernel, by decide +kernel⟩ rfl rfl ⟨Nat.le_of_ble_eq_true rfl, Nat.le_of_ble_eq_true rfl⟩ ⟨Nat.le_of_ble_eq_true rfl, Nat.le_of_ble_eq_true rfl⟩ hl.1 (Nat.le_of_ble_eq_true rfl) hP hD hS zdi_5_9 (fun b1 H locs hP hD hS => ?_)
  refine W.widen (k := 9) (n := 124) (by omega) (by omega) ?_
  have hP : va_P (dC, dI) zCl ([(h0, .inr (5, [.null, .null, .int 0, .null, .null, .null]))] ++ zw_S cI q0 b1) H := hP
  have hD : va_D A ([(h0, .inr (5, [.null, .null, .int 0, .null, .null, .null]))] ++ zw_S cI q0 b1) := hD
  refine zk_put (ci := 5) (k := 0) (fs' := [.ref q0, .null, .int 0, .null, .null, .null]) ⟨hx, hb⟩ hown hts hK (by decide) (by decide) hP hD hS (zin 214 rfl rfl) (Or.inr ⟨rfl, hnm, rfl⟩) rfl rfl (Nat.le_of_ble_eq_true rfl) rfl zdi_5_12 (fun H locs hP hD hS => ?_)
  have hP : va_P (dC, dI) zCl ([(h0, .inr (5, [.ref q0, .null, .int 0, .null, .null, .null]))] ++ zw_S cI q0 b1) H := hP
  have hD : va_D A ([(h0, .inr (5, [.ref q0, .null, .int 0, .null, .null, .null]))] ++ zw_S cI q0 b1) := hD
  refine lv_aload_n hx hb zdi_5_15 rfl (lv_at hl 0 rfl) ?_
  refine va_new (D := (dC, dI)) (ci := 4) (fs := [.int 0, .int 0, .int 0, .null, .null, .null, .null, .null]) (C := zR4) (T := zT4) (N := 8) hx hb hts zlw4 zY4 zY4_ok hown (hts _ (zin 60 rfl rfl)) (hts _ (zin 61 rfl rfl)) (hts _ (zin 43 rfl rfl)) hK hP hD hS hA rfl (fun j hj => by rcases (show j = 0 ∨ j = 1 ∨ j = 2 ∨ j = 3 ∨ j = 4 ∨ j = 5 ∨ j = 6 ∨ j = 7 by omega) with rfl | rfl | rfl | rfl | rfl | rfl | rfl | rfl <;> rfl) (Nat.le_of_ble_eq_true rfl) (Nat.le_of_ble_eq_true rfl) zdi_5_16 (fun q2 H hP hD hS => ?_)
  refine W.widen (k := 10) (n := 132) (by omega) (by omega) ?_
  refine lv_dup hx hb zdi_5_19 rfl ?_
  refine zk_call (ws := [(h0, .inr (5, [.ref q0, .null, .int 0, .null, .null, .null]))] ++ zw_S cI q0 b1) F (zk_4 l dC dI cI cC cS) (Or.inl (zin 62 rfl rfl)) (zin 43 rfl rfl) (zin 63 rfl rfl) (zin 64 rfl rfl) rfl ⟨by decide +kernel, by decide +kernel, by decide +kernel⟩ rfl rfl ⟨Nat.le_of_ble_eq_true rfl, Nat.le_of_ble_eq_true rfl⟩ ⟨Nat.le_of_ble_eq_true rfl, Nat.le_of_ble_eq_true rfl⟩ hl.1 (Nat.le_of_ble_eq_true rfl) hP hD hS zdi_5_20 (fun b3 H locs hP hD hS => ?_)
  refine W.widen (k := 18) (n := 248) (by omega) (by omega) ?_
  have hP : va_P (dC, dI) zCl ([(h0, .inr (5, [.ref q0, .null, .int 0, .null, .null, .null]))] ++ zw_S cI q0 b1 ++ zw_S cI q2 b3) H := hP
  have hD : va_D A ([(h0, .inr (5, [.ref q0, .null, .int 0, .null, .null, .null]))] ++ zw_S cI q0 b1 ++ zw_S cI q2 b3) := hD
  refine zk_put (ci := 5) (k := 1) (fs' := [.ref q0, .ref q2, .int 0, .null, .null, .null]) ⟨hx, hb⟩ hown hts hK (by decide) (by decide) hP hD hS (zin 215 rfl rfl) (Or.inr ⟨rfl, hnm, rfl⟩) rfl rfl (Nat.le_of_ble_eq_true rfl) rfl zdi_5_23 (fun H locs hP hD hS => ?_)
  have hP : va_P (dC, dI) zCl ([(h0, .inr (5, [.ref q0, .ref q2, .int 0, .null, .null, .null]))] ++ zw_S cI q0 b1 ++ zw_S cI q2 b3) H := hP
  have hD : va_D A ([(h0, .inr (5, [.ref q0, .ref q2, .int 0, .null, .null, .null]))] ++ zw_S cI q0 b1 ++ zw_S cI q2 b3) := hD
  refine lv_aload_n hx hb zdi_5_26 rfl (lv_at hl 0 rfl) ?_
  refine lv_iconst (v := 0) hx hb zdi_5_27 (by decide) ?_
  refine zk_put (ci := 5) (k := 2) (fs' := [.ref q0, .ref q2, .int 0, .null, .null, .null]) ⟨hx, hb⟩ hown hts hK (by decide) (by decide) hP hD hS (zin 216 rfl rfl) (Or.inl rfl) rfl rfl (Nat.le_of_ble_eq_true rfl) rfl zdi_5_28 (fun H locs hP hD hS => ?_)
  have hP : va_P (dC, dI) zCl ([(h0, .inr (5, [.ref q0, .ref q2, .int 0, .null, .null, .null]))] ++ zw_S cI q0 b1 ++ zw_S cI q2 b3) H := hP
  have hD : va_D A ([(h0, .inr (5, [.ref q0, .ref q2, .int 0, .null, .null, .null]))] ++ zw_S cI q0 b1 ++ zw_S cI q2 b3) := hD
  refine lv_aload_n hx hb zdi_5_31 rfl (lv_at hl 0 rfl) ?_
  refine va_new (D := (dC, dI)) (ci := 2) (fs := [.int 0, .int 0, .null]) (C := zR2) (T := zT2) (N := 3) hx hb hts zlw2 zY2 zY2_ok hown (hts _ (zin 130 rfl rfl)) (hts _ (zin 131 rfl rfl)) (hts _ (zin 45 rfl rfl)) hK hP hD hS hA rfl (fun j hj => by rcases (show j = 0 ∨ j = 1 ∨ j = 2 by omega) with rfl | rfl | rfl <;> rfl) (Nat.le_of_ble_eq_true rfl) (Nat.le_of_ble_eq_true rfl) zdi_5_32 (fun q4 H hP hD hS => ?_)
  refine W.widen (k := 19) (n := 251) (by omega) (by omega) ?_
  refine lv_dup hx hb zdi_5_35 rfl ?_
  refine zk_call (ws := [(h0, .inr (5, [.ref q0, .ref q2, .int 0, .null, .null, .null]))] ++ zw_S cI q0 b1 ++ zw_S cI q2 b3) F (zk_2 l dC dI cI cC cS) (Or.inl (zin 132 rfl rfl)) (zin 45 rfl rfl) (zin 133 rfl rfl) (zin 134 rfl rfl) rfl ⟨by decide +kernel, by decide +kernel, by decide +kernel⟩ rfl rfl ⟨Nat.le_of_ble_eq_true rfl, Nat.le_of_ble_eq_true rfl⟩ ⟨Nat.le_of_ble_eq_true rfl, Nat.le_of_ble_eq_true rfl⟩ hl.1 (Nat.le_of_ble_eq_true rfl) hP hD hS zdi_5_36 (fun b5 H locs hP hD hS => ?_)
  refine W.widen (k := 56) (n := 751) (by omega) (by omega) ?_
  have hP : va_P (dC, dI) zCl ([(h0, .inr (5, [.ref q0, .ref q2, .int 0, .null, .null, .null]))] ++ zw_S cI q0 b1 ++ zw_S cI q2 b3 ++ zw_H cI cS q4 b5) H := hP
  have hD : va_D A ([(h0, .inr (5, [.ref q0, .ref q2, .int 0, .null, .null, .null]))] ++ zw_S cI q0 b1 ++ zw_S cI q2 b3 ++ zw_H cI cS q4 b5) := hD
  refine zk_put (ci := 5) (k := 3) (fs' := [.ref q0, .ref q2, .int 0, .ref q4, .null, .null]) ⟨hx, hb⟩ hown hts hK (by decide) (by decide) hP hD hS (zin 217 rfl rfl) (Or.inr ⟨rfl, hnm, rfl⟩) rfl rfl (Nat.le_of_ble_eq_true rfl) rfl zdi_5_39 (fun H locs hP hD hS => ?_)
  have hP : va_P (dC, dI) zCl ([(h0, .inr (5, [.ref q0, .ref q2, .int 0, .ref q4, .null, .null]))] ++ zw_S cI q0 b1 ++ zw_S cI q2 b3 ++ zw_H cI cS q4 b5) H := hP
  have hD : va_D A ([(h0, .inr (5, [.ref q0, .ref q2, .int 0, .ref q4, .null, .null]))] ++ zw_S cI q0 b1 ++ zw_S cI q2 b3 ++ zw_H cI cS q4 b5) := hD
  refine lv_aload_n hx hb zdi_5_42 rfl (lv_at hl 0 rfl) ?_
  refine va_new (D := (dC, dI)) (ci := 0) (fs := [.int 0, .null, .int 0, .null, .null, .null]) (C := zR0) (T := zT0) (N := 6) hx hb hts zlw0 zY0 zY0_ok hown (hts _ (zin 150 rfl rfl)) (hts _ (zin 151 rfl rfl)) (hts _ (zin 46 rfl rfl)) hK hP hD hS hA rfl (fun j hj => by rcases (show j = 0 ∨ j = 1 ∨ j = 2 ∨ j = 3 ∨ j = 4 ∨ j = 5 by omega) with rfl | rfl | rfl | rfl | rfl | rfl <;> rfl) (Nat.le_of_ble_eq_true rfl) (Nat.le_of_ble_eq_true rfl) zdi_5_43 (fun q6 H hP hD hS => ?_)
  refine W.widen (k := 57) (n := 757) (by omega) (by omega) ?_
  refine lv_dup hx hb zdi_5_46 rfl ?_
  refine zk_call (ws := [(h0, .inr (5, [.ref q0, .ref q2, .int 0, .ref q4, .null, .null]))] ++ zw_S cI q0 b1 ++ zw_S cI q2 b3 ++ zw_H cI cS q4 b5) F (zk_0 l dC dI cI cC cS) (Or.inr ⟨"BorderPaints", by decide +kernel⟩) (zin 46 rfl rfl) (zin 153 rfl rfl) (zin 154 rfl rfl) rfl ⟨by decide +kernel, by decide +kernel, by decide +kernel⟩ rfl rfl ⟨Nat.le_of_ble_eq_true rfl, Nat.le_of_ble_eq_true rfl⟩ ⟨Nat.le_of_ble_eq_true rfl, Nat.le_of_ble_eq_true rfl⟩ hl.1 (Nat.le_of_ble_eq_true rfl) hP hD hS zdi_5_47 (fun b7 H locs hP hD hS => ?_)
  refine W.widen (k := 61) (n := 865) (by omega) (by omega) ?_
  have hP : va_P (dC, dI) zCl ([(h0, .inr (5, [.ref q0, .ref q2, .int 0, .ref q4, .null, .null]))] ++ zw_S cI q0 b1 ++ zw_S cI q2 b3 ++ zw_H cI cS q4 b5 ++ zw_T cI cC q6 b7) H := hP
  have hD : va_D A ([(h0, .inr (5, [.ref q0, .ref q2, .int 0, .ref q4, .null, .null]))] ++ zw_S cI q0 b1 ++ zw_S cI q2 b3 ++ zw_H cI cS q4 b5 ++ zw_T cI cC q6 b7) := hD
  refine zk_put (ci := 5) (k := 4) (fs' := [.ref q0, .ref q2, .int 0, .ref q4, .ref q6, .null]) ⟨hx, hb⟩ hown hts hK (by decide) (by decide) hP hD hS (zin 218 rfl rfl) (Or.inr ⟨rfl, hnm, rfl⟩) rfl rfl (Nat.le_of_ble_eq_true rfl) rfl zdi_5_50 (fun H locs hP hD hS => ?_)
  have hP : va_P (dC, dI) zCl ([(h0, .inr (5, [.ref q0, .ref q2, .int 0, .ref q4, .ref q6, .null]))] ++ zw_S cI q0 b1 ++ zw_S cI q2 b3 ++ zw_H cI cS q4 b5 ++ zw_T cI cC q6 b7) H := hP
  have hD : va_D A ([(h0, .inr (5, [.ref q0, .ref q2, .int 0, .ref q4, .ref q6, .null]))] ++ zw_S cI q0 b1 ++ zw_S cI q2 b3 ++ zw_H cI cS q4 b5 ++ zw_T cI cC q6 b7) := hD
  refine lv_aload_n hx hb zdi_5_53 rfl (lv_at hl 0 rfl) ?_
  refine va_new (D := (dC, dI)) (ci := 3) (fs := [.null, .null, .null, .null, .null, .int 0, .int 0]) (C := zR3) (T := zT3) (N := 7) hx hb hts zlw3 zY3 zY3_ok hown (hts _ (zin 181 rfl rfl)) (hts _ (zin 182 rfl rfl)) (hts _ (zin 47 rfl rfl)) hK hP hD hS hA rfl (fun j hj => by rcases (show j = 0 ∨ j = 1 ∨ j = 2 ∨ j = 3 ∨ j = 4 ∨ j = 5 ∨ j = 6 by omega) with rfl | rfl | rfl | rfl | rfl | rfl | rfl <;> rfl) (Nat.le_of_ble_eq_true rfl) (Nat.le_of_ble_eq_true rfl) zdi_5_54 (fun q8 H hP hD hS => ?_)
  refine W.widen (k := 62) (n := 872) (by omega) (by omega) ?_
  refine lv_dup hx hb zdi_5_57 rfl ?_
  refine zk_call (ws := [(h0, .inr (5, [.ref q0, .ref q2, .int 0, .ref q4, .ref q6, .null]))] ++ zw_S cI q0 b1 ++ zw_S cI q2 b3 ++ zw_H cI cS q4 b5 ++ zw_T cI cC q6 b7) F (zk_3 l dC dI cI cC cS) (Or.inr ⟨"BorderPaints", by decide +kernel⟩) (zin 47 rfl rfl) (zin 184 rfl rfl) (zin 185 rfl rfl) rfl ⟨by decide +kernel, by decide +kernel, by decide +kernel⟩ rfl rfl ⟨Nat.le_of_ble_eq_true rfl, Nat.le_of_ble_eq_true rfl⟩ ⟨Nat.le_of_ble_eq_true rfl, Nat.le_of_ble_eq_true rfl⟩ hl.1 (Nat.le_of_ble_eq_true rfl) hP hD hS zdi_5_58 (fun b9 H locs hP hD hS => ?_)
  refine W.widen (k := 75) (n := 1028) (by omega) (by omega) ?_
  have hP : va_P (dC, dI) zCl ([(h0, .inr (5, [.ref q0, .ref q2, .int 0, .ref q4, .ref q6, .null]))] ++ zw_S cI q0 b1 ++ zw_S cI q2 b3 ++ zw_H cI cS q4 b5 ++ zw_T cI cC q6 b7 ++ zw_R cI q8 b9) H := hP
  have hD : va_D A ([(h0, .inr (5, [.ref q0, .ref q2, .int 0, .ref q4, .ref q6, .null]))] ++ zw_S cI q0 b1 ++ zw_S cI q2 b3 ++ zw_H cI cS q4 b5 ++ zw_T cI cC q6 b7 ++ zw_R cI q8 b9) := hD
  refine zk_put (ci := 5) (k := 5) (fs' := [.ref q0, .ref q2, .int 0, .ref q4, .ref q6, .ref q8]) ⟨hx, hb⟩ hown hts hK (by decide) (by decide) hP hD hS (zin 219 rfl rfl) (Or.inr ⟨rfl, hnm, rfl⟩) rfl rfl (Nat.le_of_ble_eq_true rfl) rfl zdi_5_61 (fun H locs hP hD hS => ?_)
  have hP : va_P (dC, dI) zCl ([(h0, .inr (5, [.ref q0, .ref q2, .int 0, .ref q4, .ref q6, .ref q8]))] ++ zw_S cI q0 b1 ++ zw_S cI q2 b3 ++ zw_H cI cS q4 b5 ++ zw_T cI cC q6 b7 ++ zw_R cI q8 b9) H := hP
  have hD : va_D A ([(h0, .inr (5, [.ref q0, .ref q2, .int 0, .ref q4, .ref q6, .ref q8]))] ++ zw_S cI q0 b1 ++ zw_S cI q2 b3 ++ zw_H cI cS q4 b5 ++ zw_T cI cC q6 b7 ++ zw_R cI q8 b9) := hD
  refine W.widen (k := 75) (n := 1028) (by omega) (by omega) ?_
  exact hend (fun k => [0, q0, (b1 1), (b1 2), (b1 3), (b1 4), (b1 5), (b1 6), (b1 7), (b1 8), q2, (b3 1), (b3 2), (b3 3), (b3 4), (b3 5), (b3 6), (b3 7), (b3 8), q4, (b5 1), (b5 2), (b5 3), (b5 4), (b5 5), (b5 6), (b5 7), (b5 8), (b5 9), (b5 10), (b5 11), (b5 12), (b5 13), (b5 14), (b5 15), (b5 16), (b5 17), (b5 18), (b5 19), (b5 20), (b5 21), (b5 22), (b5 23), (b5 24), (b5 25), (b5 26), (b5 27), (b5 28), (b5 29), (b5 30), (b5 31), (b5 32), (b5 33), (b5 34), (b5 35), (b5 36), (b5 37), q6, (b7 1), (b7 2), (b7 3), (b7 4), q8, (b9 1), (b9 2), (b9 3), (b9 4), (b9 5), (b9 6), (b9 7), (b9 8), (b9 9), (b9 10), (b9 11), (b9 12), (b9 13)].getD k 0) 64 H locs ls zdi_5_64 hP hD hS
theorem zdi_6_0 : decode prog_8_method_1_code 0 = .ok (.aload_n 0, 1) := by decide +kernel
theorem zdi_6_1 : decode prog_8_method_1_code 1 = .ok (.invokespecial 1, 3) := by decide +kernel
theorem zdi_6_4 : decode prog_8_method_1_code 4 = .ok (.aload_n 0, 1) := by decide +kernel
theorem zdi_6_5 : decode prog_8_method_1_code 5 = .ok (.sipush 150, 3) := by decide +kernel
theorem zdi_6_8 : decode prog_8_method_1_code 8 = .ok (.newarray .int, 2) := by decide +kernel
theorem zdi_6_10 : decode prog_8_method_1_code 10 = .ok (.putfield 7, 3) := by decide +kernel
theorem zdi_6_13 : decode prog_8_method_1_code 13 = .ok (.aload_n 0, 1) := by decide +kernel
theorem zdi_6_14 : decode prog_8_method_1_code 14 = .ok (.sipush 600, 3) := by decide +kernel
theorem zdi_6_17 : decode prog_8_method_1_code 17 = .ok (.newarray .int, 2) := by decide +kernel
theorem zdi_6_19 : decode prog_8_method_1_code 19 = .ok (.putfield 13, 3) := by decide +kernel
theorem zdi_6_22 : decode prog_8_method_1_code 22 = .ok (.aload_n 0, 1) := by decide +kernel
theorem zdi_6_23 : decode prog_8_method_1_code 23 = .ok (.sipush 150, 3) := by decide +kernel
theorem zdi_6_26 : decode prog_8_method_1_code 26 = .ok (.newarray .int, 2) := by decide +kernel
theorem zdi_6_28 : decode prog_8_method_1_code 28 = .ok (.putfield 16, 3) := by decide +kernel
theorem zdi_6_31 : decode prog_8_method_1_code 31 = .ok (.aload_n 0, 1) := by decide +kernel
theorem zdi_6_32 : decode prog_8_method_1_code 32 = .ok (.bipush 8, 2) := by decide +kernel
theorem zdi_6_34 : decode prog_8_method_1_code 34 = .ok (.newarray .int, 2) := by decide +kernel
theorem zdi_6_36 : decode prog_8_method_1_code 36 = .ok (.putfield 19, 3) := by decide +kernel
theorem zdi_6_39 : decode prog_8_method_1_code 39 = .ok (.aload_n 0, 1) := by decide +kernel
theorem zdi_6_40 : decode prog_8_method_1_code 40 = .ok (.bipush 8, 2) := by decide +kernel
theorem zdi_6_42 : decode prog_8_method_1_code 42 = .ok (.newarray .int, 2) := by decide +kernel
theorem zdi_6_44 : decode prog_8_method_1_code 44 = .ok (.putfield 22, 3) := by decide +kernel
theorem zdi_6_47 : decode prog_8_method_1_code 47 = .ok (.aload_n 0, 1) := by decide +kernel
theorem zdi_6_48 : decode prog_8_method_1_code 48 = .ok (.bipush 8, 2) := by decide +kernel
theorem zdi_6_50 : decode prog_8_method_1_code 50 = .ok (.newarray .int, 2) := by decide +kernel
theorem zdi_6_52 : decode prog_8_method_1_code 52 = .ok (.putfield 25, 3) := by decide +kernel
theorem zdi_6_55 : decode prog_8_method_1_code 55 = .ok (.aload_n 0, 1) := by decide +kernel
theorem zdi_6_56 : decode prog_8_method_1_code 56 = .ok (.bipush (-5), 2) := by decide +kernel
theorem zdi_6_58 : decode prog_8_method_1_code 58 = .ok (.putfield 28, 3) := by decide +kernel
theorem zdi_6_61 : decode prog_8_method_1_code 61 = .ok (.aload_n 0, 1) := by decide +kernel
theorem zdi_6_62 : decode prog_8_method_1_code 62 = .ok (.bipush (-5), 2) := by decide +kernel
theorem zdi_6_64 : decode prog_8_method_1_code 64 = .ok (.putfield 32, 3) := by decide +kernel
theorem zdi_6_67 : decode prog_8_method_1_code 67 = .ok (.aload_n 0, 1) := by decide +kernel
theorem zdi_6_68 : decode prog_8_method_1_code 68 = .ok (.bipush 60, 2) := by decide +kernel
theorem zdi_6_70 : decode prog_8_method_1_code 70 = .ok (.newarray .char, 2) := by decide +kernel
theorem zdi_6_72 : decode prog_8_method_1_code 72 = .ok (.putfield 35, 3) := by decide +kernel
theorem zdi_6_75 : decode prog_8_method_1_code 75 = .ok (.iconst 0, 1) := by decide +kernel
theorem zdi_6_76 : decode prog_8_method_1_code 76 = .ok (.istore_n 1, 1) := by decide +kernel
theorem zdi_6_77 : decode prog_8_method_1_code 77 = .ok (.iload_n 1, 1) := by decide +kernel
theorem zdi_6_78 : decode prog_8_method_1_code 78 = .ok (.iconst 4, 1) := by decide +kernel
theorem zdi_6_79 : decode prog_8_method_1_code 79 = .ok (.if_icmp .ge 22, 3) := by decide +kernel
theorem zdi_6_82 : decode prog_8_method_1_code 82 = .ok (.aload_n 0, 1) := by decide +kernel
theorem zdi_6_83 : decode prog_8_method_1_code 83 = .ok (.getfield 7, 3) := by decide +kernel
theorem zdi_6_86 : decode prog_8_method_1_code 86 = .ok (.sipush 133, 3) := by decide +kernel
theorem zdi_6_89 : decode prog_8_method_1_code 89 = .ok (.iconst 5, 1) := by decide +kernel
theorem zdi_6_90 : decode prog_8_method_1_code 90 = .ok (.iload_n 1, 1) := by decide +kernel
theorem zdi_6_91 : decode prog_8_method_1_code 91 = .ok (.imul, 1) := by decide +kernel
theorem zdi_6_92 : decode prog_8_method_1_code 92 = .ok (.iadd, 1) := by decide +kernel
theorem zdi_6_93 : decode prog_8_method_1_code 93 = .ok (.iconst 1, 1) := by decide +kernel
theorem zdi_6_94 : decode prog_8_method_1_code 94 = .ok (.iastore, 1) := by decide +kernel
theorem zdi_6_95 : decode prog_8_method_1_code 95 = .ok (.iinc 1 1, 3) := by decide +kernel
theorem zdi_6_98 : decode prog_8_method_1_code 98 = .ok (.goto (-21), 3) := by decide +kernel
theorem zdi_6_101 : decode prog_8_method_1_code 101 = .ok (.return_, 1) := by decide +kernel
set_option maxHeartbeats 4000000 in
set_option maxRecDepth 100000 in
theorem zk_6 (l : Launch) (dC : Nat → ClassId) (dI : Nat → Nat → Nat) (cI cC cS : ClassId) : zKC l dC dI cI cC cS ⟨zR6, "<init>", "()V"⟩ prog_8_method_1_code 2 { frames := 2, cells := 7, slots := 984, locals := 120 } 7 984 6 [.null, .null, .int 0, .null, .int 0, .null, .null, .null, .int 0, .int 0, .int 0, .int 0, .int 0, .int 0, .null, .int 0, .int 0, .int 0, .int 0] (zw_M cI cC) := by
  refine zk_met (by decide +kernel) rfl (by decide) ?_
  intro h0 p e s m args below meth c A ls Q F hl hP hD hend
  obtain ⟨hx, hb, hml, hown, hts, hK, hNE, hA, hlocks, hret, hnm⟩ := id F
  have hS : va_S A s.heap s.heap [] := va_S.rf
  refine lv_aload_n hx hb zdi_6_0 rfl (lv_at hl 0 rfl) ?_
  refine W.objInit hx hb hown (hts _ (zin 592 rfl rfl)) (hts _ zoi_i) (hts _ zoi_c) rfl (by rw [hml]; exact hl.1) rfl zdi_6_1 (Nat.le_of_ble_eq_true rfl) (Nat.le_of_ble_eq_true rfl) ?_
  refine W.eq (g2 := F0 m 4 ls []) rfl ?_
  refine lv_aload_n hx hb zdi_6_4 rfl (lv_at hl 0 rfl) ?_
  refine lv_sipush (v := 150) hx hb zdi_6_5 (by decide) ?_
  refine zk_newI ⟨hx, hb⟩ (hts _ zaI) hK hA hP hD hS (N := 150) (by decide) (by decide) (Nat.le_of_ble_eq_true rfl) (Nat.le_of_ble_eq_true rfl) (Nat.le_of_ble_eq_true rfl) zdi_6_8 (fun q0 H hP hD hS => ?_)
  refine W.widen (k := 1) (n := 150) (by omega) (by omega) ?_
  have hP : va_P (dC, dI) zCl ([(h0, .inr (6, [.null, .null, .int 0, .null, .int 0, .null, .null, .null, .int 0, .int 0, .int 0, .int 0, .int 0, .int 0, .null, .int 0, .int 0, .int 0, .int 0])), (q0, .inl (cI, 150, .inl (fun _ => 0)))]) H := hP
  have hD : va_D A ([(h0, .inr (6, [.null, .null, .int 0, .null, .int 0, .null, .null, .null, .int 0, .int 0, .int 0, .int 0, .int 0, .int 0, .null, .int 0, .int 0, .int 0, .int 0])), (q0, .inl (cI, 150, .inl (fun _ => 0)))]) := hD
  refine zk_put (ci := 6) (k := 0) (fs' := [.ref q0, .null, .int 0, .null, .int 0, .null, .null, .null, .int 0, .int 0, .int 0, .int 0, .int 0, .int 0, .null, .int 0, .int 0, .int 0, .int 0]) ⟨hx, hb⟩ hown hts hK (by decide) (by decide) hP hD hS (zin 593 rfl rfl) (Or.inr ⟨rfl, hnm, rfl⟩) rfl rfl (Nat.le_of_ble_eq_true rfl) rfl zdi_6_10 (fun H locs hP hD hS => ?_)
  have hP : va_P (dC, dI) zCl ([(h0, .inr (6, [.ref q0, .null, .int 0, .null, .int 0, .null, .null, .null, .int 0, .int 0, .int 0, .int 0, .int 0, .int 0, .null, .int 0, .int 0, .int 0, .int 0])), (q0, .inl (cI, 150, .inl (fun _ => 0)))]) H := hP
  have hD : va_D A ([(h0, .inr (6, [.ref q0, .null, .int 0, .null, .int 0, .null, .null, .null, .int 0, .int 0, .int 0, .int 0, .int 0, .int 0, .null, .int 0, .int 0, .int 0, .int 0])), (q0, .inl (cI, 150, .inl (fun _ => 0)))]) := hD
  refine lv_aload_n hx hb zdi_6_13 rfl (lv_at hl 0 rfl) ?_
  refine lv_sipush (v := 600) hx hb zdi_6_14 (by decide) ?_
  refine zk_newI ⟨hx, hb⟩ (hts _ zaI) hK hA hP hD hS (N := 600) (by decide) (by decide) (Nat.le_of_ble_eq_true rfl) (Nat.le_of_ble_eq_true rfl) (Nat.le_of_ble_eq_true rfl) zdi_6_17 (fun q1 H hP hD hS => ?_)
  refine W.widen (k := 2) (n := 750) (by omega) (by omega) ?_
  have hP : va_P (dC, dI) zCl ([(h0, .inr (6, [.ref q0, .null, .int 0, .null, .int 0, .null, .null, .null, .int 0, .int 0, .int 0, .int 0, .int 0, .int 0, .null, .int 0, .int 0, .int 0, .int 0])), (q0, .inl (cI, 150, .inl (fun _ => 0))), (q1, .inl (cI, 600, .inl (fun _ => 0)))]) H := hP
  have hD : va_D A ([(h0, .inr (6, [.ref q0, .null, .int 0, .null, .int 0, .null, .null, .null, .int 0, .int 0, .int 0, .int 0, .int 0, .int 0, .null, .int 0, .int 0, .int 0, .int 0])), (q0, .inl (cI, 150, .inl (fun _ => 0))), (q1, .inl (cI, 600, .inl (fun _ => 0)))]) := hD
  refine zk_put (ci := 6) (k := 1) (fs' := [.ref q0, .ref q1, .int 0, .null, .int 0, .null, .null, .null, .int 0, .int 0, .int 0, .int 0, .int 0, .int 0, .null, .int 0, .int 0, .int 0, .int 0]) ⟨hx, hb⟩ hown hts hK (by decide) (by decide) hP hD hS (zin 594 rfl rfl) (Or.inr ⟨rfl, hnm, rfl⟩) rfl rfl (Nat.le_of_ble_eq_true rfl) rfl zdi_6_19 (fun H locs hP hD hS => ?_)
  have hP : va_P (dC, dI) zCl ([(h0, .inr (6, [.ref q0, .ref q1, .int 0, .null, .int 0, .null, .null, .null, .int 0, .int 0, .int 0, .int 0, .int 0, .int 0, .null, .int 0, .int 0, .int 0, .int 0])), (q0, .inl (cI, 150, .inl (fun _ => 0))), (q1, .inl (cI, 600, .inl (fun _ => 0)))]) H := hP
  have hD : va_D A ([(h0, .inr (6, [.ref q0, .ref q1, .int 0, .null, .int 0, .null, .null, .null, .int 0, .int 0, .int 0, .int 0, .int 0, .int 0, .null, .int 0, .int 0, .int 0, .int 0])), (q0, .inl (cI, 150, .inl (fun _ => 0))), (q1, .inl (cI, 600, .inl (fun _ => 0)))]) := hD
  refine lv_aload_n hx hb zdi_6_22 rfl (lv_at hl 0 rfl) ?_
  refine lv_sipush (v := 150) hx hb zdi_6_23 (by decide) ?_
  refine zk_newI ⟨hx, hb⟩ (hts _ zaI) hK hA hP hD hS (N := 150) (by decide) (by decide) (Nat.le_of_ble_eq_true rfl) (Nat.le_of_ble_eq_true rfl) (Nat.le_of_ble_eq_true rfl) zdi_6_26 (fun q2 H hP hD hS => ?_)
  refine W.widen (k := 3) (n := 900) (by omega) (by omega) ?_
  have hP : va_P (dC, dI) zCl ([(h0, .inr (6, [.ref q0, .ref q1, .int 0, .null, .int 0, .null, .null, .null, .int 0, .int 0, .int 0, .int 0, .int 0, .int 0, .null, .int 0, .int 0, .int 0, .int 0])), (q0, .inl (cI, 150, .inl (fun _ => 0))), (q1, .inl (cI, 600, .inl (fun _ => 0))), (q2, .inl (cI, 150, .inl (fun _ => 0)))]) H := hP
  have hD : va_D A ([(h0, .inr (6, [.ref q0, .ref q1, .int 0, .null, .int 0, .null, .null, .null, .int 0, .int 0, .int 0, .int 0, .int 0, .int 0, .null, .int 0, .int 0, .int 0, .int 0])), (q0, .inl (cI, 150, .inl (fun _ => 0))), (q1, .inl (cI, 600, .inl (fun _ => 0))), (q2, .inl (cI, 150, .inl (fun _ => 0)))]) := hD
  refine zk_put (ci := 6) (k := 3) (fs' := [.ref q0, .ref q1, .int 0, .ref q2, .int 0, .null, .null, .null, .int 0, .int 0, .int 0, .int 0, .int 0, .int 0, .null, .int 0, .int 0, .int 0, .int 0]) ⟨hx, hb⟩ hown hts hK (by decide) (by decide) hP hD hS (zin 596 rfl rfl) (Or.inr ⟨rfl, hnm, rfl⟩) rfl rfl (Nat.le_of_ble_eq_true rfl) rfl zdi_6_28 (fun H locs hP hD hS => ?_)
  have hP : va_P (dC, dI) zCl ([(h0, .inr (6, [.ref q0, .ref q1, .int 0, .ref q2, .int 0, .null, .null, .null, .int 0, .int 0, .int 0, .int 0, .int 0, .int 0, .null, .int 0, .int 0, .int 0, .int 0])), (q0, .inl (cI, 150, .inl (fun _ => 0))), (q1, .inl (cI, 600, .inl (fun _ => 0))), (q2, .inl (cI, 150, .inl (fun _ => 0)))]) H := hP
  have hD : va_D A ([(h0, .inr (6, [.ref q0, .ref q1, .int 0, .ref q2, .int 0, .null, .null, .null, .int 0, .int 0, .int 0, .int 0, .int 0, .int 0, .null, .int 0, .int 0, .int 0, .int 0])), (q0, .inl (cI, 150, .inl (fun _ => 0))), (q1, .inl (cI, 600, .inl (fun _ => 0))), (q2, .inl (cI, 150, .inl (fun _ => 0)))]) := hD
  refine lv_aload_n hx hb zdi_6_31 rfl (lv_at hl 0 rfl) ?_
  refine lv_bipush (v := 8) hx hb zdi_6_32 (by decide) ?_
  refine zk_newI ⟨hx, hb⟩ (hts _ zaI) hK hA hP hD hS (N := 8) (by decide) (by decide) (Nat.le_of_ble_eq_true rfl) (Nat.le_of_ble_eq_true rfl) (Nat.le_of_ble_eq_true rfl) zdi_6_34 (fun q3 H hP hD hS => ?_)
  refine W.widen (k := 4) (n := 908) (by omega) (by omega) ?_
  have hP : va_P (dC, dI) zCl ([(h0, .inr (6, [.ref q0, .ref q1, .int 0, .ref q2, .int 0, .null, .null, .null, .int 0, .int 0, .int 0, .int 0, .int 0, .int 0, .null, .int 0, .int 0, .int 0, .int 0])), (q0, .inl (cI, 150, .inl (fun _ => 0))), (q1, .inl (cI, 600, .inl (fun _ => 0))), (q2, .inl (cI, 150, .inl (fun _ => 0))), (q3, .inl (cI, 8, .inl (fun _ => 0)))]) H := hP
  have hD : va_D A ([(h0, .inr (6, [.ref q0, .ref q1, .int 0, .ref q2, .int 0, .null, .null, .null, .int 0, .int 0, .int 0, .int 0, .int 0, .int 0, .null, .int 0, .int 0, .int 0, .int 0])), (q0, .inl (cI, 150, .inl (fun _ => 0))), (q1, .inl (cI, 600, .inl (fun _ => 0))), (q2, .inl (cI, 150, .inl (fun _ => 0))), (q3, .inl (cI, 8, .inl (fun _ => 0)))]) := hD
  refine zk_put (ci := 6) (k := 5) (fs' := [.ref q0, .ref q1, .int 0, .ref q2, .int 0, .ref q3, .null, .null, .int 0, .int 0, .int 0, .int 0, .int 0, .int 0, .null, .int 0, .int 0, .int 0, .int 0]) ⟨hx, hb⟩ hown hts hK (by decide) (by decide) hP hD hS (zin 598 rfl rfl) (Or.inr ⟨rfl, hnm, rfl⟩) rfl rfl (Nat.le_of_ble_eq_true rfl) rfl zdi_6_36 (fun H locs hP hD hS => ?_)
  have hP : va_P (dC, dI) zCl ([(h0, .inr (6, [.ref q0, .ref q1, .int 0, .ref q2, .int 0, .ref q3, .null, .null, .int 0, .int 0, .int 0, .int 0, .int 0, .int 0, .null, .int 0, .int 0, .int 0, .int 0])), (q0, .inl (cI, 150, .inl (fun _ => 0))), (q1, .inl (cI, 600, .inl (fun _ => 0))), (q2, .inl (cI, 150, .inl (fun _ => 0))), (q3, .inl (cI, 8, .inl (fun _ => 0)))]) H := hP
  have hD : va_D A ([(h0, .inr (6, [.ref q0, .ref q1, .int 0, .ref q2, .int 0, .ref q3, .null, .null, .int 0, .int 0, .int 0, .int 0, .int 0, .int 0, .null, .int 0, .int 0, .int 0, .int 0])), (q0, .inl (cI, 150, .inl (fun _ => 0))), (q1, .inl (cI, 600, .inl (fun _ => 0))), (q2, .inl (cI, 150, .inl (fun _ => 0))), (q3, .inl (cI, 8, .inl (fun _ => 0)))]) := hD
  refine lv_aload_n hx hb zdi_6_39 rfl (lv_at hl 0 rfl) ?_
  refine lv_bipush (v := 8) hx hb zdi_6_40 (by decide) ?_
  refine zk_newI ⟨hx, hb⟩ (hts _ zaI) hK hA hP hD hS (N := 8) (by decide) (by decide) (Nat.le_of_ble_eq_true rfl) (Nat.le_of_ble_eq_true rfl) (Nat.le_of_ble_eq_true rfl) zdi_6_42 (fun q4 H hP hD hS => ?_)
  refine W.widen (k := 5) (n := 916) (by omega) (by omega) ?_
  have hP : va_P (dC, dI) zCl ([(h0, .inr (6, [.ref q0, .ref q1, .int 0, .ref q2, .int 0, .ref q3, .null, .null, .int 0, .int 0, .int 0, .int 0, .int 0, .int 0, .null, .int 0, .int 0, .int 0, .int 0])), (q0, .inl (cI, 150, .inl (fun _ => 0))), (q1, .inl (cI, 600, .inl (fun _ => 0))), (q2, .inl (cI, 150, .inl (fun _ => 0))), (q3, .inl (cI, 8, .inl (fun _ => 0))), (q4, .inl (cI, 8, .inl (fun _ => 0)))]) H := hP
  have hD : va_D A ([(h0, .inr (6, [.ref q0, .ref q1, .int 0, .ref q2, .int 0, .ref q3, .null, .null, .int 0, .int 0, .int 0, .int 0, .int 0, .int 0, .null, .int 0, .int 0, .int 0, .int 0])), (q0, .inl (cI, 150, .inl (fun _ => 0))), (q1, .inl (cI, 600, .inl (fun _ => 0))), (q2, .inl (cI, 150, .inl (fun _ => 0))), (q3, .inl (cI, 8, .inl (fun _ => 0))), (q4, .inl (cI, 8, .inl (fun _ => 0)))]) := hD
  refine zk_put (ci := 6) (k := 6) (fs' := [.ref q0, .ref q1, .int 0, .ref q2, .int 0, .ref q3, .ref q4, .null, .int 0, .int 0, .int 0, .int 0, .int 0, .int 0, .null, .int 0, .int 0, .int 0, .int 0]) ⟨hx, hb⟩ hown hts hK (by decide) (by decide) hP hD hS (zin 599 rfl rfl) (Or.inr ⟨rfl, hnm, rfl⟩) rfl rfl (Nat.le_of_ble_eq_true rfl) rfl zdi_6_44 (fun H locs hP hD hS => ?_)
  have hP : va_P (dC, dI) zCl ([(h0, .inr (6, [.ref q0, .ref q1, .int 0, .ref q2, .int 0, .ref q3, .ref q4, .null, .int 0, .int 0, .int 0, .int 0, .int 0, .int 0, .null, .int 0, .int 0, .int 0, .int 0])), (q0, .inl (cI, 150, .inl (fun _ => 0))), (q1, .inl (cI, 600, .inl (fun _ => 0))), (q2, .inl (cI, 150, .inl (fun _ => 0))), (q3, .inl (cI, 8, .inl (fun _ => 0))), (q4, .inl (cI, 8, .inl (fun _ => 0)))]) H := hP
  have hD : va_D A ([(h0, .inr (6, [.ref q0, .ref q1, .int 0, .ref q2, .int 0, .ref q3, .ref q4, .null, .int 0, .int 0, .int 0, .int 0, .int 0, .int 0, .null, .int 0, .int 0, .int 0, .int 0])), (q0, .inl (cI, 150, .inl (fun _ => 0))), (q1, .inl (cI, 600, .inl (fun _ => 0))), (q2, .inl (cI, 150, .inl (fun _ => 0))), (q3, .inl (cI, 8, .inl (fun _ => 0))), (q4, .inl (cI, 8, .inl (fun _ => 0)))]) := hD
  refine lv_aload_n hx hb zdi_6_47 rfl (lv_at hl 0 rfl) ?_
  refine lv_bipush (v := 8) hx hb zdi_6_48 (by decide) ?_
  refine zk_newI ⟨hx, hb⟩ (hts _ zaI) hK hA hP hD hS (N := 8) (by decide) (by decide) (Nat.le_of_ble_eq_true rfl) (Nat.le_of_ble_eq_true rfl) (Nat.le_of_ble_eq_true rfl) zdi_6_50 (fun q5 H hP hD hS => ?_)
  refine W.widen (k := 6) (n := 924) (by omega) (by omega) ?_
  have hP : va_P (dC, dI) zCl ([(h0, .inr (6, [.ref q0, .ref q1, .int 0, .ref q2, .int 0, .ref q3, .ref q4, .null, .int 0, .int 0, .int 0, .int 0, .int 0, .int 0, .null, .int 0, .int 0, .int 0, .int 0])), (q0, .inl (cI, 150, .inl (fun _ => 0))), (q1, .inl (cI, 600, .inl (fun _ => 0))), (q2, .inl (cI, 150, .inl (fun _ => 0))), (q3, .inl (cI, 8, .inl (fun _ => 0))), (q4, .inl (cI, 8, .inl (fun _ => 0))), (q5, .inl (cI, 8, .inl (fun _ => 0)))]) H := hP
  have hD : va_D A ([(h0, .inr (6, [.ref q0, .ref q1, .int 0, .ref q2, .int 0, .ref q3, .ref q4, .null, .int 0, .int 0, .int 0, .int 0, .int 0, .int 0, .null, .int 0, .int 0, .int 0, .int 0])), (q0, .inl (cI, 150, .inl (fun _ => 0))), (q1, .inl (cI, 600, .inl (fun _ => 0))), (q2, .inl (cI, 150, .inl (fun _ => 0))), (q3, .inl (cI, 8, .inl (fun _ => 0))), (q4, .inl (cI, 8, .inl (fun _ => 0))), (q5, .inl (cI, 8, .inl (fun _ => 0)))]) := hD
  refine zk_put (ci := 6) (k := 7) (fs' := [.ref q0, .ref q1, .int 0, .ref q2, .int 0, .ref q3, .ref q4, .ref q5, .int 0, .int 0, .int 0, .int 0, .int 0, .int 0, .null, .int 0, .int 0, .int 0, .int 0]) ⟨hx, hb⟩ hown hts hK (by decide) (by decide) hP hD hS (zin 600 rfl rfl) (Or.inr ⟨rfl, hnm, rfl⟩) rfl rfl (Nat.le_of_ble_eq_true rfl) rfl zdi_6_52 (fun H locs hP hD hS => ?_)
  have hP : va_P (dC, dI) zCl ([(h0, .inr (6, [.ref q0, .ref q1, .int 0, .ref q2, .int 0, .ref q3, .ref q4, .ref q5, .int 0, .int 0, .int 0, .int 0, .int 0, .int 0, .null, .int 0, .int 0, .int 0, .int 0])), (q0, .inl (cI, 150, .inl (fun _ => 0))), (q1, .inl (cI, 600, .inl (fun _ => 0))), (q2, .inl (cI, 150, .inl (fun _ => 0))), (q3, .inl (cI, 8, .inl (fun _ => 0))), (q4, .inl (cI, 8, .inl (fun _ => 0))), (q5, .inl (cI, 8, .inl (fun _ => 0)))]) H := hP
  have hD : va_D A ([(h0, .inr (6, [.ref q0, .ref q1, .int 0, .ref q2, .int 0, .ref q3, .ref q4, .ref q5, .int 0, .int 0, .int 0, .int 0, .int 0, .int 0, .null, .int 0, .int 0, .int 0, .int 0])), (q0, .inl (cI, 150, .inl (fun _ => 0))), (q1, .inl (cI, 600, .inl (fun _ => 0))), (q2, .inl (cI, 150, .inl (fun _ => 0))), (q3, .inl (cI, 8, .inl (fun _ => 0))), (q4, .inl (cI, 8, .inl (fun _ => 0))), (q5, .inl (cI, 8, .inl (fun _ => 0)))]) := hD
  refine lv_aload_n hx hb zdi_6_55 rfl (lv_at hl 0 rfl) ?_
  refine lv_bipush (v := -5) hx hb zdi_6_56 (by decide) ?_
  refine zk_put (ci := 6) (k := 11) (fs' := [.ref q0, .ref q1, .int 0, .ref q2, .int 0, .ref q3, .ref q4, .ref q5, .int 0, .int 0, .int 0, .int (-5), .int 0, .int 0, .null, .int 0, .int 0, .int 0, .int 0]) ⟨hx, hb⟩ hown hts hK (by decide) (by decide) hP hD hS (zin 604 rfl rfl) (Or.inl rfl) rfl rfl (Nat.le_of_ble_eq_true rfl) rfl zdi_6_58 (fun H locs hP hD hS => ?_)
  have hP : va_P (dC, dI) zCl ([(h0, .inr (6, [.ref q0, .ref q1, .int 0, .ref q2, .int 0, .ref q3, .ref q4, .ref q5, .int 0, .int 0, .int 0, .int (-5), .int 0, .int 0, .null, .int 0, .int 0, .int 0, .int 0])), (q0, .inl (cI, 150, .inl (fun _ => 0))), (q1, .inl (cI, 600, .inl (fun _ => 0))), (q2, .inl (cI, 150, .inl (fun _ => 0))), (q3, .inl (cI, 8, .inl (fun _ => 0))), (q4, .inl (cI, 8, .inl (fun _ => 0))), (q5, .inl (cI, 8, .inl (fun _ => 0)))]) H := hP
  have hD : va_D A ([(h0, .inr (6, [.ref q0, .ref q1, .int 0, .ref q2, .int 0, .ref q3, .ref q4, .ref q5, .int 0, .int 0, .int 0, .int (-5), .int 0, .int 0, .null, .int 0, .int 0, .int 0, .int 0])), (q0, .inl (cI, 150, .inl (fun _ => 0))), (q1, .inl (cI, 600, .inl (fun _ => 0))), (q2, .inl (cI, 150, .inl (fun _ => 0))), (q3, .inl (cI, 8, .inl (fun _ => 0))), (q4, .inl (cI, 8, .inl (fun _ => 0))), (q5, .inl (cI, 8, .inl (fun _ => 0)))]) := hD
  refine lv_aload_n hx hb zdi_6_61 rfl (lv_at hl 0 rfl) ?_
  refine lv_bipush (v := -5) hx hb zdi_6_62 (by decide) ?_
  refine zk_put (ci := 6) (k := 12) (fs' := [.ref q0, .ref q1, .int 0, .ref q2, .int 0, .ref q3, .ref q4, .ref q5, .int 0, .int 0, .int 0, .int (-5), .int (-5), .int 0, .null, .int 0, .int 0, .int 0, .int 0]) ⟨hx, hb⟩ hown hts hK (by decide) (by decide) hP hD hS (zin 605 rfl rfl) (Or.inl rfl) rfl rfl (Nat.le_of_ble_eq_true rfl) rfl zdi_6_64 (fun H locs hP hD hS => ?_)
  have hP : va_P (dC, dI) zCl ([(h0, .inr (6, [.ref q0, .ref q1, .int 0, .ref q2, .int 0, .ref q3, .ref q4, .ref q5, .int 0, .int 0, .int 0, .int (-5), .int (-5), .int 0, .null, .int 0, .int 0, .int 0, .int 0])), (q0, .inl (cI, 150, .inl (fun _ => 0))), (q1, .inl (cI, 600, .inl (fun _ => 0))), (q2, .inl (cI, 150, .inl (fun _ => 0))), (q3, .inl (cI, 8, .inl (fun _ => 0))), (q4, .inl (cI, 8, .inl (fun _ => 0))), (q5, .inl (cI, 8, .inl (fun _ => 0)))]) H := hP
  have hD : va_D A ([(h0, .inr (6, [.ref q0, .ref q1, .int 0, .ref q2, .int 0, .ref q3, .ref q4, .ref q5, .int 0, .int 0, .int 0, .int (-5), .int (-5), .int 0, .null, .int 0, .int 0, .int 0, .int 0])), (q0, .inl (cI, 150, .inl (fun _ => 0))), (q1, .inl (cI, 600, .inl (fun _ => 0))), (q2, .inl (cI, 150, .inl (fun _ => 0))), (q3, .inl (cI, 8, .inl (fun _ => 0))), (q4, .inl (cI, 8, .inl (fun _ => 0))), (q5, .inl (cI, 8, .inl (fun _ => 0)))]) := hD
  refine lv_aload_n hx hb zdi_6_67 rfl (lv_at hl 0 rfl) ?_
  refine lv_bipush (v := 60) hx hb zdi_6_68 (by decide) ?_
  refine zk_newC ⟨hx, hb⟩ (hts _ zaC) hK hA hP hD hS (N := 60) (by decide) (by decide) (Nat.le_of_ble_eq_true rfl) (Nat.le_of_ble_eq_true rfl) (Nat.le_of_ble_eq_true rfl) zdi_6_70 (fun q6 H hP hD hS => ?_)
  refine W.widen (k := 7) (n := 984) (by omega) (by omega) ?_
  have hP : va_P (dC, dI) zCl ([(h0, .inr (6, [.ref q0, .ref q1, .int 0, .ref q2, .int 0, .ref q3, .ref q4, .ref q5, .int 0, .int 0, .int 0, .int (-5), .int (-5), .int 0, .null, .int 0, .int 0, .int 0, .int 0])), (q0, .inl (cI, 150, .inl (fun _ => 0))), (q1, .inl (cI, 600, .inl (fun _ => 0))), (q2, .inl (cI, 150, .inl (fun _ => 0))), (q3, .inl (cI, 8, .inl (fun _ => 0))), (q4, .inl (cI, 8, .inl (fun _ => 0))), (q5, .inl (cI, 8, .inl (fun _ => 0))), (q6, .inl (cC, 60, .inl (fun _ => 0)))]) H := hP
  have hD : va_D A ([(h0, .inr (6, [.ref q0, .ref q1, .int 0, .ref q2, .int 0, .ref q3, .ref q4, .ref q5, .int 0, .int 0, .int 0, .int (-5), .int (-5), .int 0, .null, .int 0, .int 0, .int 0, .int 0])), (q0, .inl (cI, 150, .inl (fun _ => 0))), (q1, .inl (cI, 600, .inl (fun _ => 0))), (q2, .inl (cI, 150, .inl (fun _ => 0))), (q3, .inl (cI, 8, .inl (fun _ => 0))), (q4, .inl (cI, 8, .inl (fun _ => 0))), (q5, .inl (cI, 8, .inl (fun _ => 0))), (q6, .inl (cC, 60, .inl (fun _ => 0)))]) := hD
  refine zk_put (ci := 6) (k := 14) (fs' := [.ref q0, .ref q1, .int 0, .ref q2, .int 0, .ref q3, .ref q4, .ref q5, .int 0, .int 0, .int 0, .int (-5), .int (-5), .int 0, .ref q6, .int 0, .int 0, .int 0, .int 0]) ⟨hx, hb⟩ hown hts hK (by decide) (by decide) hP hD hS (zin 607 rfl rfl) (Or.inr ⟨rfl, hnm, rfl⟩) rfl rfl (Nat.le_of_ble_eq_true rfl) rfl zdi_6_72 (fun H locs hP hD hS => ?_)
  have hP : va_P (dC, dI) zCl ([(h0, .inr (6, [.ref q0, .ref q1, .int 0, .ref q2, .int 0, .ref q3, .ref q4, .ref q5, .int 0, .int 0, .int 0, .int (-5), .int (-5), .int 0, .ref q6, .int 0, .int 0, .int 0, .int 0])), (q0, .inl (cI, 150, .inl (fun _ => 0))), (q1, .inl (cI, 600, .inl (fun _ => 0))), (q2, .inl (cI, 150, .inl (fun _ => 0))), (q3, .inl (cI, 8, .inl (fun _ => 0))), (q4, .inl (cI, 8, .inl (fun _ => 0))), (q5, .inl (cI, 8, .inl (fun _ => 0))), (q6, .inl (cC, 60, .inl (fun _ => 0)))]) H := hP
  have hD : va_D A ([(h0, .inr (6, [.ref q0, .ref q1, .int 0, .ref q2, .int 0, .ref q3, .ref q4, .ref q5, .int 0, .int 0, .int 0, .int (-5), .int (-5), .int 0, .ref q6, .int 0, .int 0, .int 0, .int 0])), (q0, .inl (cI, 150, .inl (fun _ => 0))), (q1, .inl (cI, 600, .inl (fun _ => 0))), (q2, .inl (cI, 150, .inl (fun _ => 0))), (q3, .inl (cI, 8, .inl (fun _ => 0))), (q4, .inl (cI, 8, .inl (fun _ => 0))), (q5, .inl (cI, 8, .inl (fun _ => 0))), (q6, .inl (cC, 60, .inl (fun _ => 0)))]) := hD
  refine lv_iconst (v := 0) hx hb zdi_6_75 (by decide) ?_
  refine lv_istore_n (lv' := [(1, .int 0), (0, .ref h0)]) hx hb zdi_6_76 rfl hl (by decide) rfl (fun ls hl => ?_)
  refine lv_iload_n hx hb zdi_6_77 rfl (lv_at hl 0 rfl) ?_
  refine lv_iconst (v := 4) hx hb zdi_6_78 (by decide) ?_
  refine lv_icmp_ge (tgt := 101) hx hb zdi_6_79 (by decide) (fun hq => absurd hq (by decide)) (fun _ => ?_)
  refine lv_aload_n hx hb zdi_6_82 rfl (lv_at hl 1 rfl) ?_
  refine va_get (D := (dC, dI)) (ci := 6) (v := .ref q0) (C := zR6) (T := zT6) (N := 19) hx hb hts zlw6 hown hK hP 0 rfl rfl 0 (by decide) (hts _ (zin 593 rfl rfl)) (fun _ h9 => h9) rfl zdi_6_83 ?_
  refine lv_sipush (v := 133) hx hb zdi_6_86 (by decide) ?_
  refine lv_iconst (v := 5) hx hb zdi_6_89 (by decide) ?_
  refine lv_iload_n hx hb zdi_6_90 rfl (lv_at hl 0 rfl) ?_
  refine lv_imul hx hb zdi_6_91 ?_
  refine lv_topi (fun z_ hz_ => ?_)
  obtain rfl : z_ = 0 := hz_.trans (by decide)
  refine lv_iadd hx hb zdi_6_92 ?_
  refine lv_topi (fun z_ hz_ => ?_)
  obtain rfl : z_ = 133 := hz_.trans (by decide)
  refine lv_iconst (v := 1) hx hb zdi_6_93 (by decide) ?_
  refine va_iast (D := (dC, dI)) (f := (fun _ => 0)) hx hb hK hP hD hS 1 0 rfl rfl (zib_in (by decide)) zdi_6_94 (fun H locs hP hD hS => ?_)
  have hP : va_P (dC, dI) zCl ([(h0, .inr (6, [.ref q0, .ref q1, .int 0, .ref q2, .int 0, .ref q3, .ref q4, .ref q5, .int 0, .int 0, .int 0, .int (-5), .int (-5), .int 0, .ref q6, .int 0, .int 0, .int 0, .int 0])), (q0, .inl (cI, 150, .inl (upd (fun _ => 0) 133 1))), (q1, .inl (cI, 600, .inl (fun _ => 0))), (q2, .inl (cI, 150, .inl (fun _ => 0))), (q3, .inl (cI, 8, .inl (fun _ => 0))), (q4, .inl (cI, 8, .inl (fun _ => 0))), (q5, .inl (cI, 8, .inl (fun _ => 0))), (q6, .inl (cC, 60, .inl (fun _ => 0)))]) H := hP
  have hD : va_D A ([(h0, .inr (6, [.ref q0, .ref q1, .int 0, .ref q2, .int 0, .ref q3, .ref q4, .ref q5, .int 0, .int 0, .int 0, .int (-5), .int (-5), .int 0, .ref q6, .int 0, .int 0, .int 0, .int 0])), (q0, .inl (cI, 150, .inl (upd (fun _ => 0) 133 1))), (q1, .inl (cI, 600, .inl (fun _ => 0))), (q2, .inl (cI, 150, .inl (fun _ => 0))), (q3, .inl (cI, 8, .inl (fun _ => 0))), (q4, .inl (cI, 8, .inl (fun _ => 0))), (q5, .inl (cI, 8, .inl (fun _ => 0))), (q6, .inl (cC, 60, .inl (fun _ => 0)))]) := hD
  refine lv_iinc (v := 1) (lv' := [(1, .int 1), (0, .ref h0)]) hx hb zdi_6_95 hl (k := 0) rfl (by decide) (by decide) rfl (fun ls hl => ?_)
  refine lv_goto (tgt := 77) hx hb zdi_6_98 (by decide) ?_
  refine lv_iload_n hx hb zdi_6_77 rfl (lv_at hl 0 rfl) ?_
  refine lv_iconst (v := 4) hx hb zdi_6_78 (by decide) ?_
  refine lv_icmp_ge (tgt := 101) hx hb zdi_6_79 (by decide) (fun hq => absurd hq (by decide)) (fun _ => ?_)
  refine lv_aload_n hx hb zdi_6_82 rfl (lv_at hl 1 rfl) ?_
  refine va_get (D := (dC, dI)) (ci := 6) (v := .ref q0) (C := zR6) (T := zT6) (N := 19) hx hb hts zlw6 hown hK hP 0 rfl rfl 0 (by decide) (hts _ (zin 593 rfl rfl)) (fun _ h9 => h9) rfl zdi_6_83 ?_
  refine lv_sipush (v := 133) hx hb zdi_6_86 (by decide) ?_
  refine lv_iconst (v := 5) hx hb zdi_6_89 (by decide) ?_
  refine lv_iload_n hx hb zdi_6_90 rfl (lv_at hl 0 rfl) ?_
  refine lv_imul hx hb zdi_6_91 ?_
  refine lv_topi (fun z_ hz_ => ?_)
  obtain rfl : z_ = 5 := hz_.trans (by decide)
  refine lv_iadd hx hb zdi_6_92 ?_
  refine lv_topi (fun z_ hz_ => ?_)
  obtain rfl : z_ = 138 := hz_.trans (by decide)
  refine lv_iconst (v := 1) hx hb zdi_6_93 (by decide) ?_
  refine va_iast (D := (dC, dI)) (f := (upd (fun _ => 0) 133 1)) hx hb hK hP hD hS 1 0 rfl rfl (zib_in (by decide)) zdi_6_94 (fun H locs hP hD hS => ?_)
  have hP : va_P (dC, dI) zCl ([(h0, .inr (6, [.ref q0, .ref q1, .int 0, .ref q2, .int 0, .ref q3, .ref q4, .ref q5, .int 0, .int 0, .int 0, .int (-5), .int (-5), .int 0, .ref q6, .int 0, .int 0, .int 0, .int 0])), (q0, .inl (cI, 150, .inl (upd (upd (fun _ => 0) 133 1) 138 1))), (q1, .inl (cI, 600, .inl (fun _ => 0))), (q2, .inl (cI, 150, .inl (fun _ => 0))), (q3, .inl (cI, 8, .inl (fun _ => 0))), (q4, .inl (cI, 8, .inl (fun _ => 0))), (q5, .inl (cI, 8, .inl (fun _ => 0))), (q6, .inl (cC, 60, .inl (fun _ => 0)))]) H := hP
  have hD : va_D A ([(h0, .inr (6, [.ref q0, .ref q1, .int 0, .ref q2, .int 0, .ref q3, .ref q4, .ref q5, .int 0, .int 0, .int 0, .int (-5), .int (-5), .int 0, .ref q6, .int 0, .int 0, .int 0, .int 0])), (q0, .inl (cI, 150, .inl (upd (upd (fun _ => 0) 133 1) 138 1))), (q1, .inl (cI, 600, .inl (fun _ => 0))), (q2, .inl (cI, 150, .inl (fun _ => 0))), (q3, .inl (cI, 8, .inl (fun _ => 0))), (q4, .inl (cI, 8, .inl (fun _ => 0))), (q5, .inl (cI, 8, .inl (fun _ => 0))), (q6, .inl (cC, 60, .inl (fun _ => 0)))]) := hD
  refine lv_iinc (v := 2) (lv' := [(1, .int 2), (0, .ref h0)]) hx hb zdi_6_95 hl (k := 0) rfl (by decide) (by decide) rfl (fun ls hl => ?_)
  refine lv_goto (tgt := 77) hx hb zdi_6_98 (by decide) ?_
  refine lv_iload_n hx hb zdi_6_77 rfl (lv_at hl 0 rfl) ?_
  refine lv_iconst (v := 4) hx hb zdi_6_78 (by decide) ?_
  refine lv_icmp_ge (tgt := 101) hx hb zdi_6_79 (by decide) (fun hq => absurd hq (by decide)) (fun _ => ?_)
  refine lv_aload_n hx hb zdi_6_82 rfl (lv_at hl 1 rfl) ?_
  refine va_get (D := (dC, dI)) (ci := 6) (v := .ref q0) (C := zR6) (T := zT6) (N := 19) hx hb hts zlw6 hown hK hP 0 rfl rfl 0 (by decide) (hts _ (zin 593 rfl rfl)) (fun _ h9 => h9) rfl zdi_6_83 ?_
  refine lv_sipush (v := 133) hx hb zdi_6_86 (by decide) ?_
  refine lv_iconst (v := 5) hx hb zdi_6_89 (by decide) ?_
  refine lv_iload_n hx hb zdi_6_90 rfl (lv_at hl 0 rfl) ?_
  refine lv_imul hx hb zdi_6_91 ?_
  refine lv_topi (fun z_ hz_ => ?_)
  obtain rfl : z_ = 10 := hz_.trans (by decide)
  refine lv_iadd hx hb zdi_6_92 ?_
  refine lv_topi (fun z_ hz_ => ?_)
  obtain rfl : z_ = 143 := hz_.trans (by decide)
  refine lv_iconst (v := 1) hx hb zdi_6_93 (by decide) ?_
  refine va_iast (D := (dC, dI)) (f := (upd (upd (fun _ => 0) 133 1) 138 1)) hx hb hK hP hD hS 1 0 rfl rfl (zib_in (by decide)) zdi_6_94 (fun H locs hP hD hS => ?_)
  have hP : va_P (dC, dI) zCl ([(h0, .inr (6, [.ref q0, .ref q1, .int 0, .ref q2, .int 0, .ref q3, .ref q4, .ref q5, .int 0, .int 0, .int 0, .int (-5), .int (-5), .int 0, .ref q6, .int 0, .int 0, .int 0, .int 0])), (q0, .inl (cI, 150, .inl (upd (upd (upd (fun _ => 0) 133 1) 138 1) 143 1))), (q1, .inl (cI, 600, .inl (fun _ => 0))), (q2, .inl (cI, 150, .inl (fun _ => 0))), (q3, .inl (cI, 8, .inl (fun _ => 0))), (q4, .inl (cI, 8, .inl (fun _ => 0))), (q5, .inl (cI, 8, .inl (fun _ => 0))), (q6, .inl (cC, 60, .inl (fun _ => 0)))]) H := hP
  have hD : va_D A ([(h0, .inr (6, [.ref q0, .ref q1, .int 0, .ref q2, .int 0, .ref q3, .ref q4, .ref q5, .int 0, .int 0, .int 0, .int (-5), .int (-5), .int 0, .ref q6, .int 0, .int 0, .int 0, .int 0])), (q0, .inl (cI, 150, .inl (upd (upd (upd (fun _ => 0) 133 1) 138 1) 143 1))), (q1, .inl (cI, 600, .inl (fun _ => 0))), (q2, .inl (cI, 150, .inl (fun _ => 0))), (q3, .inl (cI, 8, .inl (fun _ => 0))), (q4, .inl (cI, 8, .inl (fun _ => 0))), (q5, .inl (cI, 8, .inl (fun _ => 0))), (q6, .inl (cC, 60, .inl (fun _ => 0)))]) := hD
  refine lv_iinc (v := 3) (lv' := [(1, .int 3), (0, .ref h0)]) hx hb zdi_6_95 hl (k := 0) rfl (by decide) (by decide) rfl (fun ls hl => ?_)
  refine lv_goto (tgt := 77) hx hb zdi_6_98 (by decide) ?_
  refine lv_iload_n hx hb zdi_6_77 rfl (lv_at hl 0 rfl) ?_
  refine lv_iconst (v := 4) hx hb zdi_6_78 (by decide) ?_
  refine lv_icmp_ge (tgt := 101) hx hb zdi_6_79 (by decide) (fun hq => absurd hq (by decide)) (fun _ => ?_)
  refine lv_aload_n hx hb zdi_6_82 rfl (lv_at hl 1 rfl) ?_
  refine va_get (D := (dC, dI)) (ci := 6) (v := .ref q0) (C := zR6) (T := zT6) (N := 19) hx hb hts zlw6 hown hK hP 0 rfl rfl 0 (by decide) (hts _ (zin 593 rfl rfl)) (fun _ h9 => h9) rfl zdi_6_83 ?_
  refine lv_sipush (v := 133) hx hb zdi_6_86 (by decide) ?_
  refine lv_iconst (v := 5) hx hb zdi_6_89 (by decide) ?_
  refine lv_iload_n hx hb zdi_6_90 rfl (lv_at hl 0 rfl) ?_
  refine lv_imul hx hb zdi_6_91 ?_
  refine lv_topi (fun z_ hz_ => ?_)
  obtain rfl : z_ = 15 := hz_.trans (by decide)
  refine lv_iadd hx hb zdi_6_92 ?_
  refine lv_topi (fun z_ hz_ => ?_)
  obtain rfl : z_ = 148 := hz_.trans (by decide)
  refine lv_iconst (v := 1) hx hb zdi_6_93 (by decide) ?_
  refine va_iast (D := (dC, dI)) (f := (upd (upd (upd (fun _ => 0) 133 1) 138 1) 143 1)) hx hb hK hP hD hS 1 0 rfl rfl (zib_in (by decide)) zdi_6_94 (fun H locs hP hD hS => ?_)
  have hP : va_P (dC, dI) zCl ([(h0, .inr (6, [.ref q0, .ref q1, .int 0, .ref q2, .int 0, .ref q3, .ref q4, .ref q5, .int 0, .int 0, .int 0, .int (-5), .int (-5), .int 0, .ref q6, .int 0, .int 0, .int 0, .int 0])), (q0, .inl (cI, 150, .inl (upd (upd (upd (upd (fun _ => 0) 133 1) 138 1) 143 1) 148 1))), (q1, .inl (cI, 600, .inl (fun _ => 0))), (q2, .inl (cI, 150, .inl (fun _ => 0))), (q3, .inl (cI, 8, .inl (fun _ => 0))), (q4, .inl (cI, 8, .inl (fun _ => 0))), (q5, .inl (cI, 8, .inl (fun _ => 0))), (q6, .inl (cC, 60, .inl (fun _ => 0)))]) H := hP
  have hD : va_D A ([(h0, .inr (6, [.ref q0, .ref q1, .int 0, .ref q2, .int 0, .ref q3, .ref q4, .ref q5, .int 0, .int 0, .int 0, .int (-5), .int (-5), .int 0, .ref q6, .int 0, .int 0, .int 0, .int 0])), (q0, .inl (cI, 150, .inl (upd (upd (upd (upd (fun _ => 0) 133 1) 138 1) 143 1) 148 1))), (q1, .inl (cI, 600, .inl (fun _ => 0))), (q2, .inl (cI, 150, .inl (fun _ => 0))), (q3, .inl (cI, 8, .inl (fun _ => 0))), (q4, .inl (cI, 8, .inl (fun _ => 0))), (q5, .inl (cI, 8, .inl (fun _ => 0))), (q6, .inl (cC, 60, .inl (fun _ => 0)))]) := hD
  refine lv_iinc (v := 4) (lv' := [(1, .int 4), (0, .ref h0)]) hx hb zdi_6_95 hl (k := 0) rfl (by decide) (by decide) rfl (fun ls hl => ?_)
  refine lv_goto (tgt := 77) hx hb zdi_6_98 (by decide) ?_
  refine lv_iload_n hx hb zdi_6_77 rfl (lv_at hl 0 rfl) ?_
  refine lv_iconst (v := 4) hx hb zdi_6_78 (by decide) ?_
  refine lv_icmp_ge (tgt := 101) hx hb zdi_6_79 (by decide) (fun _ => ?_) (fun hq => absurd (by decide) hq)
  refine W.widen (k := 7) (n := 984) (by omega) (by omega) ?_
  exact hend (fun k => [0, q0, q1, q2, q3, q4, q5, q6].getD k 0) 101 H locs ls zdi_6_101 hP hD hS
