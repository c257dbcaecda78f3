/-! words for what the small machine counts; a method's table of callees -/
def zorc : List (Nat × (List zV → zHp → zRs)) → zOr
  | [], _ => fun _ _ => none
  | (k, f) :: t, j => if Nat.beq k j then f else zorc t j
theorem zorc_nil {l : Launch} {dC : Nat → ClassId} {dI : Nat → Nat → Nat} {ad : Nat → Nat} {cI cC cS : ClassId} : ∀ j, zCT l dC dI ad cI cC cS zyM zbM zlM ztM j (zorc [] j) := fun j _ _ _ _ h => by cases h
theorem zorc_cons {l : Launch} {dC : Nat → ClassId} {dI : Nat → Nat → Nat} {ad : Nat → Nat} {cI cC cS : ClassId} {k : Nat} {f : List zV → zHp → zRs} {t : List (Nat × (List zV → zHp → zRs))} (hf : zCT l dC dI ad cI cC cS zyM zbM zlM ztM k f) (ht : ∀ j, zCT l dC dI ad cI cC cS zyM zbM zlM ztM j (zorc t j)) : ∀ j, zCT l dC dI ad cI cC cS zyM zbM zlM ztM j (zorc ((k, f) :: t) j) := by
  intro j
  unfold zorc
  by_cases hb : Nat.beq k j = true
  · rw [if_pos hb]
    have e := Nat.eq_of_beq_eq_true hb
    subst e
    exact hf
  · rw [if_neg hb]
    exact ht j
