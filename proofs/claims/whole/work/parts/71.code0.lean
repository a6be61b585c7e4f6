def cw_okN (cM sM : Nat → Nat) (M : Nat) (t : Nat → Option cw_S) : Prop := ∀ (pc : Nat) (sem : cw_S), t pc = some sem → cw_SN cM sM M pc sem
def cw_okA (cM sM : Nat → Nat) (M : Nat) (t : Nat → Option cw_S) : Prop := ∀ (pc : Nat) (sem : cw_S), t pc = some sem → cw_SN cM sM M pc sem ∨ cw_SA cM sM M pc sem
theorem cw_leaf_eq {k pc : Nat} {s sem : cw_S} (h : cw_leaf k s pc = some sem) : pc = k ∧ s = sem := by
  unfold cw_leaf at h
  cases e : Nat.beq pc k with
  | true => rw [e] at h; exact ⟨Nat.eq_of_beq_eq_true e, Option.some.inj h⟩
  | false => rw [e] at h; cases h
theorem cw_node_eq {k pc : Nat} {a b : Nat → Option cw_S} {sem : cw_S} (h : cw_node k a b pc = some sem) : a pc = some sem ∨ b pc = some sem := by
  unfold cw_node at h
  cases e : Nat.ble k pc with
  | true => rw [e] at h; exact Or.inr h
  | false => rw [e] at h; exact Or.inl h
theorem cw_oleaf {cM sM : Nat → Nat} {M k : Nat} {s : cw_S} (h : cw_SN cM sM M k s) : cw_okN cM sM M (cw_leaf k s) := fun pc sem e => by
  obtain ⟨rfl, rfl⟩ := cw_leaf_eq e
  exact h
theorem cw_onode {cM sM : Nat → Nat} {M k : Nat} {a b : Nat → Option cw_S} (ha : cw_okN cM sM M a) (hb : cw_okN cM sM M b) : cw_okN cM sM M (cw_node k a b) := fun pc sem e => (cw_node_eq e).elim (ha pc sem) (hb pc sem)
theorem cw_aleaf {cM sM : Nat → Nat} {M k : Nat} {s : cw_S} (h : cw_SN cM sM M k s ∨ cw_SA cM sM M k s) : cw_okA cM sM M (cw_leaf k s) := fun pc sem e => by
  obtain ⟨rfl, rfl⟩ := cw_leaf_eq e
  exact h
theorem cw_anode {cM sM : Nat → Nat} {M k : Nat} {a b : Nat → Option cw_S} (ha : cw_okA cM sM M a) (hb : cw_okA cM sM M b) : cw_okA cM sM M (cw_node k a b) := fun pc sem e => (cw_node_eq e).elim (ha pc sem) (hb pc sem)
theorem cw_place_sw : ∀ k : Int, ((45 : Nat) : Int) + Op.lookupswitch.offset (#[(0, 27), (1, 37)] : Array (Int × Int)).toList 47 k = (((([(0, 72), (1, 82)] : List (Int × Nat)).lookup k).getD 92 : Nat) : Int) := by
  intro k
  by_cases h0 : k = 0
  · subst h0
    decide
  · by_cases h1 : k = 1
    · subst h1
      decide
    · have e0 : (k == 0) = false := by simpa using h0
      have e1 : (k == 1) = false := by simpa using h1
      have e2 : Op.lookupswitch.offset (#[(0, 27), (1, 37)] : Array (Int × Int)).toList 47 k = 47 := by
        simp [Op.lookupswitch.offset]
        omega
      have e3 : ([(0, 72), (1, 82)] : List (Int × Nat)).lookup k = none := by
        simp [List.lookup, e0, e1]
      rw [e2, e3]
      decide
