/-! The small machine's heap as the kit's world, its frames as the machine's frames. -/
def ztr (ad : Nat → Nat) : zV → Value
  | .inl x => .int x
  | .inr k => .ref (ad k)
def zfs (ad : Nat → Nat) (h : zHp) (c k : Nat) : List Value := (List.range (zNF c)).map (fun j => if Nat.beq (zFT c j) 2 then .ref (ad (zHR k j)) else .int (h k j))
def zent (ad : Nat → Nat) (cI cC cS : ClassId) (h : zHp) (k : Nat) : va_E := match zSk k with
  | 7 => .inl (cC, zSn k, .inl (h k))
  | 8 => .inl (cI, zSn k, .inl (h k))
  | 9 => .inl (cS, zSn k, .inr (.inr (.inr (.inr (fun j => some (ad (zHR k j)))))))
  | c => .inr (c, zfs ad h c k)
def zWS (ad : Nat → Nat) (cI cC cS : ClassId) (h : zHp) : va_W := (List.range 84).map (fun k => (ad k, zent ad cI cC cS h k))
def zAD (ad : Nat → Nat) : Nat → Prop := fun q => ∃ k : Nat, k < 84 ∧ q = ad k
abbrev zty (cI cC cS : ClassId) : List (ClassId × FieldType) := [(cI, .int), (cC, .char), (cS, .object "BorderPaints$State")]
def zNL : List (String × Nat × MethodName × String) := [("BorderPaints$State", 51, ⟨"BorderPaints", "isNumber", "(I)Z"⟩, "BorderPaints"), ("BorderPaints$State", 55, ⟨"BorderPaints", "has", "(II)Z"⟩, "BorderPaints"), ("BorderPaints$Repainter", 63, ⟨"BorderPaints", "has", "(II)Z"⟩, "BorderPaints")]
def zNE (U : State) : Prop := ∀ n ∈ zNL, va_Nw (.methodLinkNest n.1 n.2.1 n.2.2.1 n.2.2.2) U
def zWD (dC : Nat → ClassId) (dI : Nat → Nat → Nat) (ad : Nat → Nat) (cI cC cS : ClassId) (h : zHp) (U : State) : Prop :=
  va_P (dC, dI) zCl (zWS ad cI cC cS h) U.heap ∧ va_K (dC, dI) zCl (zty cI cC cS) U ∧ zNE U
/-- the addresses are apart -/
def zap (ad : Nat → Nat) : Prop := ∀ i j : Nat, i < 84 → j < 84 → ad i = ad j → i = j
theorem zWS_at {ad : Nat → Nat} {cI cC cS : ClassId} {h : zHp} {k : Nat} (hk : k < 84) : (zWS ad cI cC cS h)[k]? = some (ad k, zent ad cI cC cS h k) := by
  simp [zWS, hk]
theorem zWS_inv {ad : Nat → Nat} {cI cC cS : ClassId} {h : zHp} {k : Nat} {q : Nat × va_E} (hq : (zWS ad cI cC cS h)[k]? = some q) : k < 84 ∧ q = (ad k, zent ad cI cC cS h k) := by
  have h1 : k < 84 := by
    have h2 := (List.getElem?_eq_some_iff.mp hq).1
    simpa [zWS] using h2
  refine ⟨h1, ?_⟩
  rw [zWS_at h1] at hq
  exact (Option.some.inj hq).symm
theorem zWS_D {ad : Nat → Nat} {cI cC cS : ClassId} {A : Nat → Prop} (ha : zap ad) (hA : ∀ k, k < 84 → A (ad k)) (h : zHp) : va_D A (zWS ad cI cC cS h) := by
  refine ⟨fun i j p q hi hj hpq => ?_, fun k q hk => ?_⟩
  · obtain ⟨h1, rfl⟩ := zWS_inv hi
    obtain ⟨h2, rfl⟩ := zWS_inv hj
    exact ha i j h1 h2 hpq
  · obtain ⟨h1, rfl⟩ := zWS_inv hk
    exact hA k h1
theorem zent_congr {ad : Nat → Nat} {cI cC cS : ClassId} {h h' : zHp} {k : Nat} (hk : h' k = h k) : zent ad cI cC cS h' k = zent ad cI cC cS h k := by
  simp only [zent, zfs, hk]
theorem zWS_set {ad : Nat → Nat} {cI cC cS : ClassId} {h h' : zHp} {k : Nat} {e : va_E} (he : zent ad cI cC cS h' k = e) (ho : ∀ i, i ≠ k → h' i = h i) : (zWS ad cI cC cS h).set k (ad k, e) = zWS ad cI cC cS h' := by
  apply List.ext_getElem?
  intro i
  by_cases hi : i < 84
  · by_cases hk : i = k
    · subst hk
      rw [zWS_at hi, List.getElem?_set_self (by simp [zWS, hi]), he]
    · rw [zWS_at hi, List.getElem?_set_ne (fun e => hk e.symm), zWS_at hi, zent_congr (ho i hk)]
  · rw [List.getElem?_eq_none (by simp [zWS]; omega), List.getElem?_eq_none (by simp [zWS]; omega)]
theorem zent_obj {ad : Nat → Nat} {cI cC cS : ClassId} {h : zHp} {k c : Nat} (hk : zSk k = c) (hc : c < 7) : zent ad cI cC cS h k = .inr (c, zfs ad h c k) := by
  unfold zent
  rw [hk]
  rcases (show c = 0 ∨ c = 1 ∨ c = 2 ∨ c = 3 ∨ c = 4 ∨ c = 5 ∨ c = 6 by omega) with rfl | rfl | rfl | rfl | rfl | rfl | rfl <;> rfl
theorem zent_char {ad : Nat → Nat} {cI cC cS : ClassId} {h : zHp} {k : Nat} (hk : zSk k = 7) : zent ad cI cC cS h k = .inl (cC, zSn k, .inl (h k)) := by
  unfold zent
  rw [hk]
  rfl
theorem zent_int {ad : Nat → Nat} {cI cC cS : ClassId} {h : zHp} {k : Nat} (hk : zSk k = 8) : zent ad cI cC cS h k = .inl (cI, zSn k, .inl (h k)) := by
  unfold zent
  rw [hk]
  rfl
theorem zent_sts {ad : Nat → Nat} {cI cC cS : ClassId} {h : zHp} {k : Nat} (hk : zSk k = 9) : zent ad cI cC cS h k = .inl (cS, zSn k, .inr (.inr (.inr (.inr (fun j => some (ad (zHR k j))))))) := by
  unfold zent
  rw [hk]
  rfl
theorem zfs_len {ad : Nat → Nat} {h : zHp} {c k : Nat} : (zfs ad h c k).length = zNF c := by simp [zfs]
theorem zfs_at {ad : Nat → Nat} {h : zHp} {c k j : Nat} (hj : j < zNF c) : (zfs ad h c k)[j]? = some (ztr ad (if Nat.beq (zFT c j) 2 then .inr (zHR k j) else .inl (h k j))) := by
  simp only [zfs, List.getElem?_map, List.getElem?_range hj, Option.map_some]
  split <;> rfl
theorem zup_ne {h : zHp} {a k : Nat} {x : Int32} {b : Nat} (hb : b ≠ a) : zup h a k x b = h b := by
  funext j
  simp [zup, hb]
theorem zup_row {h : zHp} {a k : Nat} {x : Int32} : zup h a k x a = upd (h a) k x := by
  funext j
  simp [zup, upd]
theorem zfs_set {ad : Nat → Nat} {h : zHp} {c k j : Nat} {x : Int32} (hj : j < zNF c) (hf : Nat.beq (zFT c j) 2 = false) : (zfs ad h c k).set j (.int x) = zfs ad (zup h k j x) c k := by
  apply List.ext_getElem?
  intro i
  by_cases hi : i < zNF c
  · by_cases hij : i = j
    · subst hij
      rw [List.getElem?_set_self (by rw [zfs_len]; exact hi), zfs_at hi, hf]
      simp [ztr, zup]
    · rw [List.getElem?_set_ne (fun e => hij e.symm), zfs_at hi, zfs_at hi]
      simp [zup, hij]
  · rw [List.getElem?_eq_none (by simp [zfs_len]; omega), List.getElem?_eq_none (by simp [zfs_len]; omega)]
def zll (ad : Nat → Nat) : Nat → zLs → List (Nat × Value)
  | _, [] => []
  | i, none :: t => zll ad (i + 1) t
  | i, some v :: t => (i, ztr ad v) :: zll ad (i + 1) t
theorem zll_mem {ad : Nat → Nat} {v : zV} : ∀ (ls : zLs) (i k : Nat), znth ls k = some (some v) → (i + k, ztr ad v) ∈ zll ad i ls := by
  intro ls
  induction ls with
  | nil => intro i k h; cases h
  | cons a t ih =>
    intro i k h
    cases k with
    | zero =>
      have h : a = some v := Option.some.inj h
      subst h
      exact List.mem_cons_self
    | succ k =>
      have h1 := ih (i + 1) k h
      rw [show i + 1 + k = i + (k + 1) by omega] at h1
      cases a with
      | none => exact h1
      | some w => exact List.mem_cons_of_mem _ h1
theorem zll_inv {ad : Nat → Nat} : ∀ (ls : zLs) (i : Nat) (q : Nat × Value), q ∈ zll ad i ls → ∃ (k : Nat) (v : zV), q = (i + k, ztr ad v) ∧ znth ls k = some (some v) := by
  intro ls
  induction ls with
  | nil => intro i q h; cases h
  | cons a t ih =>
    intro i q h
    have up : q ∈ zll ad (i + 1) t → ∃ (k : Nat) (v : zV), q = (i + k, ztr ad v) ∧ znth (a :: t) k = some (some v) := by
      intro h1
      obtain ⟨k, v, h2, h3⟩ := ih (i + 1) q h1
      exact ⟨k + 1, v, by rw [h2, show i + 1 + k = i + (k + 1) by omega], h3⟩
    cases a with
    | none => exact up h
    | some w =>
      rcases List.mem_cons.mp h with h | h
      · exact ⟨0, w, h, rfl⟩
      · exact up h
theorem znth_set : ∀ (ls : zLs) (k j : Nat) (x : Option zV), znth (zset ls k x) j = if j = k ∧ k < ls.length then some x else znth ls j := by
  intro ls
  induction ls with
  | nil => intro k j x; simp [zset]
  | cons a t ih =>
    intro k j x
    cases k with
    | zero =>
      cases j with
      | zero => simp [zset, znth]
      | succ j => simp [zset, znth]
    | succ k =>
      cases j with
      | zero => simp [zset, znth]
      | succ j => simp [zset, znth, ih]
theorem zset_len : ∀ (ls : zLs) (k : Nat) (x : Option zV), (zset ls k x).length = ls.length := by
  intro ls
  induction ls with
  | nil => intro k x; rfl
  | cons a t ih =>
    intro k x
    cases k with
    | zero => rfl
    | succ k => simp [zset, ih]
/-- the machine's locals hold the small machine's -/
def zLR (ad : Nat → Nat) (lj : Array Slot) (nL : Nat) (ls : zLs) : Prop := ls.length = nL ∧ lv_has lj nL (zll ad 0 ls)
theorem ztr_cat (ad : Nat → Nat) (v : zV) : (ztr ad v).category = 1 := by cases v <;> rfl
theorem zLR_get {ad : Nat → Nat} {lj : Array Slot} {nL : Nat} {ls : zLs} {k : Nat} {v : zV} (h : zLR ad lj nL ls) (hk : znth ls k = some (some v)) : lj[k]? = some (.val (ztr ad v)) := by
  have h1 := zll_mem (ad := ad) ls 0 k hk
  rw [Nat.zero_add] at h1
  exact h.2.2.2 _ h1
theorem zLR_set {ad : Nat → Nat} {lj lj' : Array Slot} {nL : Nat} {ls : zLs} {k : Nat} {v : zV} (hn : ls.length = nL) (hk : k < nL)
    (h : lv_has lj' nL ((k, ztr ad v) :: (zll ad 0 ls).filter (fun q => !(q.1 == k) && !(q.1 + 1 == k && q.2.category == 2)))) : zLR ad lj' nL (zset ls k (some v)) := by
  refine ⟨by rw [zset_len]; exact hn, h.1, h.2.1, fun q hq => ?_⟩
  obtain ⟨j, w, rfl, hw⟩ := zll_inv _ _ _ hq
  rw [Nat.zero_add]
  rw [znth_set] at hw
  by_cases hj : j = k
  · subst hj
    rw [if_pos ⟨rfl, by omega⟩] at hw
    cases hw
    exact h.2.2 _ List.mem_cons_self
  · rw [if_neg (fun e => hj e.1)] at hw
    have h1 := zll_mem (ad := ad) ls 0 j hw
    rw [Nat.zero_add] at h1
    refine h.2.2 (j, ztr ad w) (List.mem_cons_of_mem _ (List.mem_filter.mpr ⟨h1, ?_⟩))
    have h2 : (ztr ad w).category = 1 := ztr_cat ad w
    simp [hj, h2]
theorem zcat_sum (ad : Nat → Nat) (st : List zV) : ((st.map (ztr ad)).map fun v => v.category).sum = st.length := by
  induction st with
  | nil => rfl
  | cons a t ih => simp only [List.map_cons, List.sum_cons, ih, ztr_cat, List.length_cons]; omega
theorem zlook_mem : ∀ (code : List zE) (pc : Nat) (q : zE), zlook code pc = some q → q ∈ code ∧ q.1 = pc := by
  intro code
  induction code with
  | nil => intro pc q h; cases h
  | cons a t ih =>
    intro pc q h
    unfold zlook at h
    by_cases hb : Nat.beq a.1 pc = true
    · rw [if_pos hb] at h
      cases h
      exact ⟨List.mem_cons_self, Nat.eq_of_beq_eq_true hb⟩
    · rw [if_neg hb] at h
      obtain ⟨h1, h2⟩ := ih pc q h
      exact ⟨List.mem_cons_of_mem _ h1, h2⟩
