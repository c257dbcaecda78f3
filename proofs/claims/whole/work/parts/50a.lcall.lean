/-! a maker called by the law -/
section ZL
variable {p : Program} {l : Launch} {e : Env} {R : Room} {s : State} {m : MethodId} {args : Array Value} {below : List Frame} {meth : Method} {c : Code} {H : Heap} {locs : List Loc} {cells slots : Nat} {Q : State → Prop}
variable {cI cC cS : ClassId} {dC : Nat → ClassId} {dI : Nat → Nat → Nat} {A : Nat → Prop} {H0 : Heap} {nL : Nat} {cc : ByteArray} {own : String} {pc : Nat} {ls : Array Slot} {rest : List Value} {ws : va_W}
/-- the same, out of the law -/
theorem zk_lcall (F : p.tables.exec = Jvm.exec ∧ c.code = cc ∧ c.maxLocals = nL ∧ s.vm.findClass own = some m.cls ∧ (∀ w ∈ zbw, w.before args s = true) ∧ va_K (dC, dI) zCl (zty cI cC cS) s ∧ zNE2 s) (hA : ∀ q : Nat, H0.size ≤ q → A q) {y : MethodName} {b : ByteArray} {ml mc ms ci x q : Nat} {rm : Room} {fs0 : List Value} {wd : Nat → (Nat → Nat) → va_W} (hM : zKC l dC dI cI cC cS y b ml rm mc ms ci fs0 wd)
    (hlk : Cond.methodLink own x y ∈ zbw) (hini : Cond.initialized y.cls ∈ zbw) (hin : Cond.instanceMethod y ∈ zbw) (hcode : Cond.code y b ml none ∈ zbw) (hy1 : y.name = "<init>") (hd : y.cls ≠ "java/lang/invoke/MethodHandle" ∧ y.cls ≠ "java/lang/invoke/VarHandle" ∧ (parseMethodDescriptor y.desc).map (fun d => d.parameters.length) = some 0)
    (hrc : rm.cells = mc) (hrs : rm.slots = ms) (hR : rm.frames + 1 ≤ R.frames ∧ 8 + (ml + 11) + rm.locals ≤ R.locals) (hcs : cells + mc ≤ R.cells ∧ slots + ms ≤ R.slots)
    (hl : ls.size = nL) (hrest : (rest.map fun v => v.category).sum ≤ 8) (hP : va_P (dC, dI) zCl (ws ++ [(q, .inr (ci, fs0))]) H) (hD : va_D A (ws ++ [(q, .inr (ci, fs0))])) (hS : va_S A H0 H locs) (hdg : decode cc pc = .ok (.invokespecial x, 3))
    (kk : ∀ (a : Nat → Nat) (H1 : Heap) (locs1 : List Loc), va_P (dC, dI) zCl (ws ++ wd q a) H1 → va_D A (ws ++ wd q a) → va_S A H0 H1 locs1 → W p l e R s m args below meth c H1 locs1 (cells + mc) (slots + ms) Q (F0 m (pc + 3) ls rest)) :
    W p l e R s m args below meth c H locs cells slots Q (F0 m pc ls (.ref q :: rest)) := by
  obtain ⟨hx, hb, hml, hown, hts, hK, hNE⟩ := F
  have hlast : (ws ++ [(q, .inr (ci, fs0))])[ws.length]? = some (q, (.inr (ci, fs0) : va_E)) := by simp
  have hPc : va_P (dC, dI) zCl [(q, .inr (ci, fs0))] H := fun k z hz => by
    have hk : k < 1 := (List.getElem?_eq_some_iff.mp hz).1
    have hk0 : k = 0 := by omega
    subst hk0
    cases hz
    exact hP _ _ hlast
  have hDc : va_D (fun _ => True) [(q, (.inr (ci, fs0) : va_E))] := ⟨fun i j a b hi hj _ => by
    have h1 := (List.getElem?_eq_some_iff.mp hi).1
    have h2 := (List.getElem?_eq_some_iff.mp hj).1
    simp at h1 h2
    omega, fun _ _ _ => trivial⟩
  have hF : ∀ z, va_A [(q, (.inr (ci, fs0) : va_E))] H.size z → A z := by
    intro z hz
    rcases hz with ⟨k, ee, hz⟩ | hz
    · have hk : k < 1 := (List.getElem?_eq_some_iff.mp hz).1
      have hk0 : k = 0 := by omega
      subst hk0
      cases hz
      exact hD.2 _ _ hlast
    · exact hA z (Nat.le_trans hS.1 hz)
  have hG : GoodIn zbw (Cond.code y b ml none :: zbw) := fun w hw => by
    rcases List.mem_cons.mp hw with rfl | hw
    · exact ⟨hcode, zgood hcode⟩
    · exact ⟨hw, zgood hw⟩
  have hbl : FrameBlind (va_Pc [.ref q] (fun U => U.heap.size = H.size ∧ va_P (dC, dI) zCl [(q, .inr (ci, fs0))] U.heap ∧ va_K (dC, dI) zCl (zty cI cC cS) U ∧ va_D (fun _ => True) [(q, (.inr (ci, fs0) : va_E))] ∧ zNE2 U)) := by
    intro a U g mk z
    obtain ⟨z0, z1, z2, z3, z4, z5, z6⟩ := z
    exact ⟨z0, z1, z2, va_K.moved (u := U) (U := U.calling g mk a) (Vm.Alike.refl U.vm) z3, z4, fun n hn => va_Nw.same (u := U) rfl rfl (z5 n hn), va_AO.moved (u := U) (Vm.Alike.refl U.vm) z6⟩
  have hp : PreS s H (va_Pc [.ref q] (fun U => U.heap.size = H.size ∧ va_P (dC, dI) zCl [(q, .inr (ci, fs0))] U.heap ∧ va_K (dC, dI) zCl (zty cI cC cS) U ∧ va_D (fun _ => True) [(q, (.inr (ci, fs0) : va_E))] ∧ zNE2 U)) (.ref q :: []) := ⟨hbl, fun U hU hW => ⟨rfl, by rw [hU], by rw [hU]; exact hPc, va_K.moved hW.alike hK, hDc, zNE2_warm hW hNE⟩⟩
  have fin : ∀ (u : Nat → Nat) (t : State) (H1 : Heap) (locs1 : List Loc), t.heap = H1 → s.vm.Alike t.vm → True → (va_P (dC, dI) zCl (wd q u) t.heap ∧ va_D (va_A [(q, (.inr (ci, fs0) : va_E))] H.size) (wd q u)) → H.size ≤ H1.size → (∀ z : Nat, z < H.size → ¬ va_A [(q, (.inr (ci, fs0) : va_E))] H.size z → H1[z]? = H[z]?) → va_S A H0 H1 locs1 → W p l e R s m args below meth c H1 locs1 (cells + mc) (slots + ms) Q (F0 m (pc + 3) ls rest) := by
    intro u t H1 locs1 ht _ _ hB _ hk1 hS1
    obtain ⟨hP1, hD1⟩ := hB
    rw [ht] at hP1
    obtain ⟨hP2, hD2⟩ := zk_join hP hD hk1 hF hP1 hD1
    exact kk u H1 locs1 hP2 hD2 hS1
  exact va_callv (va_runI (As := []) (rest := rest) ⟨hx, hb, hml, hown, hts⟩ (hM q H.size) (cwI 0 hts hG rfl hrc hrs (hts _ hini) (hts _ hlk) (hts _ hin) hy1 hd hR) hp rfl rfl hl rfl (lv_room hrest) hdg hcs) hS (fun z _ h => hF z h) hF fin
end ZL
