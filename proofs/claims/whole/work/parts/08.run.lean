/-! Every step, the whole run, a method's contract. -/
section ZY
variable {p : Program} {l : Launch} {e : Env} {R : Room} {s : State} {m : MethodId} {args : Array Value} {below : List Frame} {meth : Method} {c : Code} {cells slots : Nat} {Q : State → Prop}
variable {ad : Nat → Nat} {cI cC cS : ClassId} {dC : Nat → ClassId} {dI : Nat → Nat → Nat} {A : Nat → Prop} {H0 : Heap} {nL : Nat} {cc : ByteArray} {own : String}
variable {yM : Nat → MethodName} {bM : Nat → ByteArray} {lM : Nat → Nat} {tM : Nat → Option FieldType} {mci : Nat → Nat}
variable {ls : zLs} {st : List zV} {h : zHp} {d : (Bool × Option Int32) ⊕ ((Bool × Nat × List zV × Nat × zLs × List zV) ⊕ (Bool × Option zN × Option zN))} {orc : zOr} {i : Nat} {r0 : Option Int32 × zHp}
/-- what holds in a frame of ours -/
def zFr (p : Program) (R : Room) (s : State) (m : MethodId) (args : Array Value) (c : Code) (cells slots : Nat) (ad : Nat → Nat) (cI cC cS : ClassId) (dC : Nat → ClassId) (dI : Nat → Nat → Nat) (A : Nat → Prop) (nL : Nat) (cc : ByteArray) (own : String) (i : Nat) : Prop :=
  p.tables.exec = Jvm.exec ∧ c.code = cc ∧ c.maxLocals = nL ∧ s.vm.findClass own = some m.cls ∧ (∀ w ∈ zbw, w.before args s = true) ∧ va_K (dC, dI) zCl (zty cI cC cS) s ∧ zNE s ∧ zap ad ∧ (∀ q, zAD ad q → A q) ∧ (i + 1 ≤ R.frames ∧ 60 * (i + 1) ≤ R.locals) ∧ (cells ≤ R.cells ∧ slots ≤ R.slots)
set_option maxHeartbeats 4000000 in
theorem zstep {sf rb : Bool} {scr : zSc} {q : zE} (F : zFr p R s m args c cells slots ad cI cC cS dC dI A nL cc own i)
    (hcall : ∀ j, j < i → zCT l dC dI ad cI cC cS yM bM lM tM j (orc j))
    (hsc : sf = true → va_X (ad 84) scr.1 scr.2 s H0 ∧ ad 84 < H0.size ∧ ¬ A (ad 84))
    (hretI : ∀ (pc : Nat) (x : Int32) (H : Heap) (locs : List Loc) (lj : Array Slot) (h : zHp), r0 = (some x, h) → (tM i).isSome = true → (rb = true → x = 0 ∨ x = 1) → decode cc pc = .ok (.ireturn, 1) → va_P (dC, dI) zCl (zWS ad cI cC cS h) H → va_S A H0 H locs → W p l e R s m args below meth c H locs cells slots Q (F0 m pc lj [.int x]))
    (hretV : ∀ (pc : Nat) (H : Heap) (locs : List Loc) (lj : Array Slot) (h : zHp), r0 = (none, h) → tM i = none → decode cc pc = .ok (.return_, 1) → va_P (dC, dI) zCl (zWS ad cI cC cS h) H → va_S A H0 H locs → W p l e R s m args below meth c H locs cells slots Q (F0 m pc lj []))
    (ok : zOK yM bM lM tM mci i own sf q) (hdc : decode cc q.1 = .ok (q.2.1, zlen q.2.2.1 q.2.1)) (hd : zstp zib zci zbo znz mci rb scr q ls st h = some d) (hg : zG orc i r0 (zW p l e R s m args below meth c cells slots Q ad cI cC cS dC dI A H0 nL) h d) :
    zW p l e R s m args below meth c cells slots Q ad cI cC cS dC dI A H0 nL q.1 ls st h := by
  obtain ⟨hx, hb, hml, hown, hts, hK, hNE, hap, hA2, hR, hRc⟩ := F
  have hA : ∀ k, k < 84 → A (ad k) := fun k hk => hA2 _ ⟨k, hk, rfl⟩
  obtain ⟨pc, ins, len, v, t, a, b⟩ := q
  cases ins
  case iload_n k => exact zs_ldI hd hg (fun H locs lj x rest hl kk => lv_iload_n hx hb hdc rfl hl kk)
  case iload k => exact zs_ldI hd hg (fun H locs lj x rest hl kk => lv_iload hx hb hdc hl kk)
  case aload_n k => exact zs_ldA hd hg (fun H locs lj x rest hl kk => lv_aload_n hx hb hdc rfl hl kk)
  case istore_n k => exact zs_stI hd hg (fun H locs lj x rest lv hl hn kk => lv_istore_n hx hb hdc rfl hl hn rfl kk)
  case istore k => exact zs_stI hd hg (fun H locs lj x rest lv hl hn kk => lv_istore hx hb hdc hl hn rfl kk)
  case iconst n =>
    have hk := zG_go hd hg
    exact fun H locs lj hP hS hl => lv_iconst hx hb hdc ok (hk H locs lj hP hS hl)
  case bipush n =>
    have hk := zG_go hd hg
    exact fun H locs lj hP hS hl => lv_bipush hx hb hdc ok (hk H locs lj hP hS hl)
  case sipush n =>
    have hk := zG_go hd hg
    exact fun H locs lj hP hS hl => lv_sipush hx hb hdc ok (hk H locs lj hP hS hl)
  case ldc_w n =>
    have hk := zG_go hd hg
    exact fun H locs lj hP hS hl => lv_ldcw hx hb hown (hts _ ok) hdc (hk H locs lj hP hS hl)
  case iadd => exact zs_op hd hg (fun H locs lj x y rest kk => lv_iadd hx hb hdc kk)
  case isub => exact zs_op hd hg (fun H locs lj x y rest kk => lv_isub hx hb hdc kk)
  case imul => exact zs_op hd hg (fun H locs lj x y rest kk => lv_imul hx hb hdc kk)
  case iand => exact zs_op hd hg (fun H locs lj x y rest kk => lv_iand hx hb hdc kk)
  case ior => exact zs_op hd hg (fun H locs lj x y rest kk => lv_ior hx hb hdc kk)
  case ixor => exact zs_op hd hg (fun H locs lj x y rest kk => lv_ixor hx hb hdc kk)
  case ishl => exact zs_op hd hg (fun H locs lj x y rest kk => lv_ishl hx hb hdc kk)
  case ishr => exact zs_op hd hg (fun H locs lj x y rest kk => lv_ishr hx hb hdc kk)
  case iushr => exact zs_op hd hg (fun H locs lj x y rest kk => lv_iushr hx hb hdc rfl kk)
  case idiv => exact zs_dv hd hg (fun H locs lj x y rest hy kk => lv_idiv hx hb hdc hy kk)
  case irem => exact zs_dv hd hg (fun H locs lj x y rest hy kk => lv_irem hx hb hdc hy kk)
  case iinc k n =>
    replace hd : zinc ls k (pc + 3) v st h = some d := hd
    unfold zinc at hd
    split at hd
    · rename_i x hxx
      obtain ⟨hbb, hk⟩ := zG_if hd hg
      have hlt : k < ls.length := Nat.blt_eq.mp hbb
      intro H locs lj hP hS hl
      have hlt2 : k < nL := by rw [← hl.1]; exact hlt
      have hmem := zll_mem (ad := ad) ls 0 k hxx
      rw [Nat.zero_add] at hmem
      obtain ⟨n0, hn0⟩ := List.getElem?_of_mem hmem
      refine lv_iinc hx hb hdc hl.2 hn0 (v := x + v) (by rw [show Int32.ofInt n = v from ok]) hlt2 rfl (fun lj' hl' => ?_)
      exact hk H locs lj' hP hS (zLR_set (lj := lj) (v := .inl (x + v)) hl.1 hlt2 hl')
    · cases hd
  case i2c =>
    match st, hd with
    | .inl x :: r, hd =>
      have hk := zG_go hd hg
      exact fun H locs lj hP hS hl => lv_i2c hx hb hdc rfl (hk H locs lj hP hS hl)
    | [], hd => cases hd
    | .inr _ :: _, hd => cases hd
  case if_icmp cd off =>
    match st, hd with
    | .inl y :: .inl x :: r, hd => exact zs_icmp hx hb hdc ok hd hg
    | [], hd => cases hd
    | [_], hd => first | cases hd | (rename_i w; cases w <;> cases hd)
    | .inr _ :: _ :: _, hd => cases hd
    | .inl _ :: .inr _ :: _, hd => cases hd
  case ifCond cd off =>
    match st, hd with
    | .inl x :: r, hd => exact zs_if hx hb hdc ok hd hg
    | [], hd => cases hd
    | .inr _ :: _, hd => cases hd
  case goto off =>
    have hk := zG_go hd hg
    exact fun H locs lj hP hS hl => lv_goto hx hb hdc ok (hk H locs lj hP hS hl)
  case tableswitch df lo hi offs =>
    match st, hd with
    | .inl x :: r, hd =>
      cases hd
      obtain ⟨g1, g2⟩ := hg
      intro H locs lj hP hS hl
      by_cases hc : x.toInt < lo ∨ hi < x.toInt
      · obtain ⟨n, e1, e2⟩ := g1 (by rcases hc with q | q <;> simp [q])
        cases e1
        exact lv_tableOut hx hb hdc hc ok (e2 H locs lj hP hS hl)
      · have hc1 : ¬ x.toInt < lo := fun q => hc (Or.inl q)
        have hc2 : ¬ hi < x.toInt := fun q => hc (Or.inr q)
        obtain ⟨n, e1, e2⟩ := g2 (by simp [hc1, hc2])
        split at e1
        · rename_i off ho
          split at e1
          · rename_i hpos
            cases e1
            exact lv_tableIn hx hb hdc hc1 hc2 ho (by omega) (e2 H locs lj hP hS hl)
          · cases e1
        · cases e1
    | [], hd => cases hd
    | .inr _ :: _, hd => cases hd
  case dup =>
    match st, hd with
    | x :: r, hd =>
      have hk := zG_go hd hg
      exact fun H locs lj hP hS hl => lv_dup hx hb hdc (ztr_cat ad x) (hk H locs lj hP hS hl)
    | [], hd => cases hd
  case dup2 =>
    match st, hd with
    | x :: y :: r, hd =>
      have hk := zG_go hd hg
      exact fun H locs lj hP hS hl => lv_dup2_11 hx hb hdc (ztr_cat ad x) (ztr_cat ad y) (hk H locs lj hP hS hl)
    | [], hd => cases hd
    | [_], hd => cases hd
  case pop =>
    match st, hd with
    | x :: r, hd =>
      have hk := zG_go hd hg
      exact fun H locs lj hP hS hl => lv_pop hx hb hdc (ztr_cat ad x) (hk H locs lj hP hS hl)
    | [], hd => cases hd
  case getfield x =>
    match st, hd with
    | .inr o :: r, hd => exact zs_get hx hb hown hts hK hdc ok hd hg
    | [], hd => cases hd
    | .inl _ :: _, hd => cases hd
  case putfield x =>
    match st, hd with
    | .inl y :: .inr o :: r, hd => exact zs_put hx hb hown hts hK hap hA hdc ok hd hg
    | [], hd => cases hd
    | [_], hd => first | cases hd | (rename_i w; cases w <;> cases hd)
    | .inr _ :: _ :: _, hd => cases hd
    | .inl _ :: .inl _ :: _, hd => cases hd
  case iaload =>
    match st, hd with
    | .inl x :: .inr o :: r, hd =>
      rcases ok with ok | ⟨ok, hsf⟩
      · subst ok
        exact zs_iald hx hb hK hdc hd hg
      · subst ok
        obtain ⟨hbb, hk⟩ := zG_if hd hg
        rw [Bool.and_eq_true] at hbb
        have ho := Nat.eq_of_beq_eq_true hbb.1
        subst ho
        obtain ⟨h2, h3, h4⟩ := hsc hsf
        intro H locs lj hP hS hl
        exact va_sld hx hb h2 h3 h4 hS (zib_in hbb.2) hdc (hk H locs lj hP hS hl)
    | [], hd => cases hd
    | [_], hd => first | cases hd | (rename_i w; cases w <;> cases hd)
    | .inr _ :: _ :: _, hd => cases hd
    | .inl _ :: .inl _ :: _, hd => cases hd
  case arraylength =>
    match st, hd with
    | .inr o :: r, hd =>
      obtain ⟨hbb, hk⟩ := zG_if hd hg
      rw [Bool.and_eq_true] at hbb
      have ho := Nat.eq_of_beq_eq_true hbb.2
      subst ho
      obtain ⟨h2, h3, h4⟩ := hsc ok
      intro H locs lj hP hS hl
      exact va_slen hx hb h2 h3 h4 hS hdc (hk H locs lj hP hS hl)
    | [], hd => cases hd
    | .inl _ :: _, hd => cases hd
  case caload =>
    match st, hd with
    | .inl x :: .inr o :: r, hd => exact zs_cald hx hb hK hdc hd hg
    | [], hd => cases hd
    | [_], hd => first | cases hd | (rename_i w; cases w <;> cases hd)
    | .inr _ :: _ :: _, hd => cases hd
    | .inl _ :: .inl _ :: _, hd => cases hd
  case aaload =>
    match st, hd with
    | .inl x :: .inr o :: r, hd => exact zs_aald hx hb hK hdc hd hg
    | [], hd => cases hd
    | [_], hd => first | cases hd | (rename_i w; cases w <;> cases hd)
    | .inr _ :: _ :: _, hd => cases hd
    | .inl _ :: .inl _ :: _, hd => cases hd
  case iastore =>
    match st, hd with
    | .inl y :: .inl x :: .inr o :: r, hd => exact zs_iast hx hb hK hap hA hdc hd hg
    | [], hd => cases hd
    | [_], hd => first | cases hd | (rename_i w; cases w <;> cases hd)
    | [w1, w2], hd => first | cases hd | (cases w1 <;> first | cases hd | (cases w2 <;> cases hd))
    | .inr _ :: _ :: _ :: _, hd => cases hd
    | .inl _ :: .inr _ :: _ :: _, hd => cases hd
    | .inl _ :: .inl _ :: .inl _ :: _, hd => cases hd
  case castore =>
    match st, hd with
    | .inl y :: .inl x :: .inr o :: r, hd => exact zs_cast hx hb hK hap hA hdc hd hg
    | [], hd => cases hd
    | [_], hd => first | cases hd | (rename_i w; cases w <;> cases hd)
    | [w1, w2], hd => first | cases hd | (cases w1 <;> first | cases hd | (cases w2 <;> cases hd))
    | .inr _ :: _ :: _ :: _, hd => cases hd
    | .inl _ :: .inr _ :: _ :: _, hd => cases hd
    | .inl _ :: .inl _ :: .inl _ :: _, hd => cases hd
  case ireturn =>
    match st, hd with
    | [.inl x], hd =>
      cases hd
      obtain ⟨hbb, he⟩ := hg
      refine fun H locs lj hP hS hl => hretI pc x H locs lj h he ok (fun hr => ?_) hdc hP hS
      subst hr
      have h9 : x = nI 0 ∨ x = nI 1 := by simpa [zbo] using hbb
      exact h9
    | [], hd => cases hd
    | [.inr _], hd => cases hd
    | .inl _ :: _ :: _, hd => cases hd
    | .inr _ :: _ :: _, hd => cases hd
  case return_ =>
    match st, hd with
    | [], hd =>
      cases hd
      obtain ⟨hbb, he⟩ := hg
      exact fun H locs lj hP hS hl => hretV pc H locs lj h he ok hdc hP hS
    | _ :: _, hd => cases hd
  case invokevirtual x => exact zs_callV hx hb hml hown hts hK hNE hA2 hR hRc hcall hdc ok hd hg
  case invokestatic x =>
    rcases ok with ⟨rfl, k1, k2, k3, k4⟩ | ⟨rfl, k1, k2, k3, k4⟩ | ⟨rfl, ok⟩ | ⟨rfl, k1, k2, k3, k4⟩ | ⟨rfl, k1, k2, k3, k4⟩
    · match st, hd with
      | .inl y :: .inl x :: r, hd =>
        obtain ⟨hbb, hk⟩ := zG_if hd hg
        have h8 := Nat.le_of_ble_eq_true hbb
        intro H locs lj hP hS hl
        exact va_mmin hx hb (by rw [hml]; exact hl.2.1.symm) hown (hts _ k1) (hts _ k2) (hts _ k3) (hts _ k4) (by omega) (by rw [zcat_sum]; omega) hRc.1 hRc.2 hdc (hk H locs lj hP hS hl)
      | [], hd => cases hd
      | [_], hd => first | cases hd | (rename_i w; cases w <;> cases hd)
      | .inr _ :: _ :: _, hd => cases hd
      | .inl _ :: .inr _ :: _, hd => cases hd
    · match st, hd with
      | .inl y :: .inl x :: r, hd =>
        obtain ⟨hbb, hk⟩ := zG_if hd hg
        have h8 := Nat.le_of_ble_eq_true hbb
        intro H locs lj hP hS hl
        exact va_mmax hx hb (by rw [hml]; exact hl.2.1.symm) hown (hts _ k1) (hts _ k2) (hts _ k3) (hts _ k4) (by omega) (by rw [zcat_sum]; omega) hRc.1 hRc.2 hdc (hk H locs lj hP hS hl)
      | [], hd => cases hd
      | [_], hd => first | cases hd | (rename_i w; cases w <;> cases hd)
      | .inr _ :: _ :: _, hd => cases hd
      | .inl _ :: .inr _ :: _, hd => cases hd
    · replace hd : zstp zib zci zbo znz mci rb scr (pc, .invokestatic x, len, v, 5, a, b) ls st h = some d := hd
      simp only [zstp] at hd
      split at hd
      · exact zs_copy hx hb hml hown hts hK hap hA (by omega) hdc ok hd hg
      · cases hd
    · exact zs_callS hx hb hml hown hts hK hNE hA2 hR hRc hcall hdc k1 k2 k3 (Or.inl k4) hd hg
    · exact zs_callS hx hb hml hown hts hK hNE hA2 hR hRc hcall hdc k1 k2 k3 (Or.inr k4) hd hg
  all_goals cases (show (none : zD) = some d from hd)
set_option maxHeartbeats 1000000 in
/-- the whole run of a frame -/
theorem zsound {sf rb : Bool} {scr : zSc} {code : List zE} (F : zFr p R s m args c cells slots ad cI cC cS dC dI A nL cc own i)
    (hcall : ∀ j, j < i → zCT l dC dI ad cI cC cS yM bM lM tM j (orc j))
    (hsc : sf = true → va_X (ad 84) scr.1 scr.2 s H0 ∧ ad 84 < H0.size ∧ ¬ A (ad 84))
    (hretI : ∀ (pc : Nat) (x : Int32) (H : Heap) (locs : List Loc) (lj : Array Slot) (h : zHp), r0 = (some x, h) → (tM i).isSome = true → (rb = true → x = 0 ∨ x = 1) → decode cc pc = .ok (.ireturn, 1) → va_P (dC, dI) zCl (zWS ad cI cC cS h) H → va_S A H0 H locs → W p l e R s m args below meth c H locs cells slots Q (F0 m pc lj [.int x]))
    (hretV : ∀ (pc : Nat) (H : Heap) (locs : List Loc) (lj : Array Slot) (h : zHp), r0 = (none, h) → tM i = none → decode cc pc = .ok (.return_, 1) → va_P (dC, dI) zCl (zWS ad cI cC cS h) H → va_S A H0 H locs → W p l e R s m args below meth c H locs cells slots Q (F0 m pc lj []))
    (hok : ∀ q ∈ code, zOK yM bM lM tM mci i own sf q) (hdec : ∀ q ∈ code, decode cc q.1 = .ok (q.2.1, zlen q.2.2.1 q.2.1)) :
    ∀ (pc : Nat) (ls : zLs) (st : List zV) (h : zHp), zrun mci code rb scr orc pc ls st h = some r0 → zW p l e R s m args below meth c cells slots Q ad cI cC cS dC dI A H0 nL pc ls st h := by
  intro pc ls st h hrun
  refine zrun.partial_correctness mci code rb scr orc (fun pc ls st h r => r = r0 → zW p l e R s m args below meth c cells slots Q ad cI cC cS dC dI A H0 nL pc ls st h) ?_ pc ls st h r0 hrun rfl
  intro run ih pc ls st h r hr he
  subst he
  split at hr
  · cases hr
  · rename_i q hq
    obtain ⟨hm, rfl⟩ := zlook_mem _ _ _ hq
    split at hr
    · cases hr
    · rename_i b v hs
      refine zstep F hcall hsc hretI hretV (hok q hm) (hdec q hm) hs ?_
      split at hr
      · rename_i hb
        cases hr
        exact ⟨hb, rfl⟩
      · cases hr
    · rename_i b j as pc' ls' rest hs
      refine zstep F hcall hsc hretI hretV (hok q hm) (hdec q hm) hs ?_
      split at hr
      · rename_i hb
        obtain ⟨q2, h1, h2⟩ := Option.bind_eq_some_iff.mp hr
        exact ⟨hb, q2, h1, ih _ _ _ _ _ h2 rfl⟩
      · cases hr
    · rename_i b n1 n2 hs
      refine zstep F hcall hsc hretI hretV (hok q hm) (hdec q hm) hs ?_
      split at hr
      · rename_i hb
        split at hr
        · cases hr
        · rename_i n
          exact ⟨fun _ => ⟨n, rfl, ih _ _ _ _ _ hr rfl⟩, fun q => by rw [hb] at q; cases q⟩
      · rename_i hb
        split at hr
        · cases hr
        · rename_i n
          exact ⟨fun q => absurd q hb, fun _ => ⟨n, rfl, ih _ _ _ _ _ hr rfl⟩⟩
end ZY
