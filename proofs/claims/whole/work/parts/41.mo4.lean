/-! THE MODEL'S TREE seen as a tree of the class -/
def mv (σ : cw_V) : cw_V := fun p => if p = 1 then (fun k => if k = 8 then σ 146 1 else if k = 9 then σ 146 3 else if k = 10 then σ 146 4 else σ 146 5) else if p = 2 then (fun k => σ 148 (4 * k)) else if p = 3 then (fun k => σ 148 (4 * k + 1)) else if p = 4 then (fun k => σ 148 (4 * k + 2)) else if p = 5 then (fun k => σ 148 (4 * k + 3)) else if p = 6 then σ 149 else if p = 7 then σ 151 else if p = 8 then σ 152 else if p = 9 then σ 153 else fun _ => 0
theorem MW.wf {σ : cw_V} {s : Nat} (h : MW σ s) : WF (mv σ) 1 s := ⟨h.1, h.2.1⟩
/-- no joints below i -/
def NJ (σ τ : cw_V) (i : Nat) : Prop := (∀ p, (p < 150 ∨ 153 < p) → τ p = σ p) ∧ ∀ x, (8 ≤ x ∧ x < i → τ 150 x = 0 ∧ τ 151 x = -1 ∧ τ 152 x = -1 ∧ τ 153 x = -1) ∧ (¬ (8 ≤ x ∧ x < i) → τ 150 x = σ 150 x ∧ τ 151 x = σ 151 x ∧ τ 152 x = σ 152 x ∧ τ 153 x = σ 153 x)
section
variable {d s : Nat} {σ : cw_V} {lam : Nat → Int64} {Q : cw_Q}
theorem jcN_le {t : Nat} : ∀ m, jcN σ t m ≤ m
  | 0 => Nat.le_refl _
  | m + 1 => by
    have := jcN_le (t := t) m
    unfold jcN
    split <;> omega
theorem MW.jc (hM : MW σ s) {m : Nat} (hm : m < 7) : nI (jcN (mv σ) 1 m) + σ 150 (8 + m) = nI (jcN (mv σ) 1 (m + 1)) := by
  show _ = nI (jcN (mv σ) 1 m + (if σ 151 (8 + m) ≠ -1 then 1 else 0))
  have h1 := hM.2.1.1
  by_cases e : σ 151 (8 + m) ≠ -1
  · rw [if_pos e, (hM.2.2 (8 + m) (by omega)).1 (Or.inr ⟨by omega, by omega, e⟩), nI_1]
  · rw [if_neg e, (hM.2.2 (8 + m) (by omega)).2 (by rintro (z | z); omega; exact e z.2.2), Int32.add_zero]
    rfl
theorem z_noJoints (hM : MW σ s) (kk : ∀ τ, MW τ s → MTR σ τ (fun _ => -1) (fun _ => -1) (fun _ => -1) → Q (some (.int (nI (jcN (mv σ) 1 7)))) (cw_B τ lam)) : cw_Z (d + 2) m_Mo_noJoints [.ref 146] (cw_B σ lam) Q := by
  have hW := hM.2.1
  refine zi (L := [some (.ref 146), none, none]) rfl rfl (fun K hK => ?_)
  have loop2 : ∀ m i τ, i + m = 8 → (NJ σ τ 15 ∨ True) → (∀ p, (p < 150 ∨ 153 < p) → τ p = σ p) → (∀ x, x < 15 → τ 151 x = -1 ∧ τ 152 x = -1 ∧ (8 ≤ x ∨ x < i → τ 153 x = -1) ∧ (8 ≤ x → τ 150 x = 0) ∧ (x < 8 → τ 150 x = σ 150 x)) → K 33 [some (.ref 146), some (.int (nI (jcN (mv σ) 1 7))), some (.int (nI i))] [] (cw_B τ lam) := by
    intro m
    induction m with
    | zero =>
      intro i τ hi _ h0 h1
      obtain rfl : i = 8 := by omega
      refine st_go hK rfl rfl ?_
      refine st_go hK rfl rfl ?_
      refine st_ifn hK rfl rfl (nI_leI (a := 8) (b := 8) (by omega) (by omega)) (fun _ => ?_) (fun c => absurd (by omega) c)
      refine st_go hK rfl rfl ?_
      refine st_ret hK rfl rfl ?_
      refine kk τ ((show MTR σ τ (fun _ => -1) (fun _ => -1) (fun _ => -1) from ⟨h0, fun x hx => (h1 x hx).1, fun x hx => (h1 x hx).2.1, fun x hx => (h1 x hx).2.2.1 (by omega)⟩).mw hM.1 (WFt.none hW.1 (fun _ _ => rfl) (fun _ _ => rfl) (fun _ _ => rfl)) (fun n hn => ?_)) ⟨h0, fun x hx => (h1 x hx).1, fun x hx => (h1 x hx).2.1, fun x hx => (h1 x hx).2.2.1 (by omega)⟩
      have hx := h1 n hn
      have h2 := hM.2.2 n hn
      have h3 := hW.1
      refine ⟨fun z => ?_, fun z => ?_⟩
      · rcases z with z | z
        · rw [hx.2.2.2.2 (by omega)]
          exact h2.1 (Or.inl z)
        · exact absurd rfl z.2.2
      · by_cases e : n < 8
        · rw [hx.2.2.2.2 e]
          exact h2.2 (by rintro (q | q); exact z (Or.inl q); omega)
        · exact hx.2.2.2.1 (by omega)
    | succ m ih =>
      intro i τ hi _ h0 h1
      refine st_go hK rfl rfl ?_
      refine st_go hK rfl rfl ?_
      refine st_ifn hK rfl rfl (nI_leI (a := 8) (b := i) (by omega) (by omega)) (fun c => absurd c (by omega)) (fun _ => ?_)
      refine st_go hK rfl rfl ?_
      refine st_getr hK rfl qf_146_11 ?_
      refine st_go hK rfl rfl ?_
      refine st_go hK rfl rfl ?_
      refine sa (e := i) hK rfl qa_153 rfl (by omega) rfl ?_
      refine st_go hK rfl rfl ?_
      rw [nI_1]
      refine st_go hK rfl rfl ?_
      refine ih (i + 1) _ (by omega) (Or.inr trivial) (fun p hp => ?_) (fun x hx => ?_)
      · rw [up_ne (by omega)]
        exact h0 p hp
      · have hx := h1 x hx
        clear ih kk h1
        simp only [up_at]
        grind
  have loop1 : ∀ m i τ, i + m = 7 → NJ σ τ (8 + i) → K 5 [some (.ref 146), some (.int (nI (jcN (mv σ) 1 i))), some (.int (nI (8 + i)))] [] (cw_B τ lam) := by
    intro m
    induction m with
    | zero =>
      intro i τ hi h
      obtain rfl : i = 7 := by omega
      refine st_go hK rfl rfl ?_
      refine st_go hK rfl rfl ?_
      refine st_ifn hK rfl rfl (nI_leI (a := 15) (b := 8 + 7) (by omega) (by omega)) (fun _ => ?_) (fun c => absurd (by omega) c)
      refine st_go hK rfl rfl ?_
      refine st_go hK rfl rfl ?_
      change K _ [some (.ref 146), some (.int (nI (jcN (mv σ) 1 7))), some (.int (0 : Int32))] _ _
      refine loop2 8 0 τ (by omega) (Or.inr trivial) h.1 (fun x hx => ?_)
      have h2 := h.2 x
      have h3 := hW.2.1 x hx
      by_cases e : x < 8
      · obtain ⟨a0, a1, a2, a3⟩ := h2.2 (by omega)
        obtain ⟨b1, b2⟩ := h3 (Or.inl e)
        exact ⟨a1.trans b1, a2.trans b2, fun z => by omega, fun z => by omega, fun _ => a0⟩
      · obtain ⟨a0, a1, a2, a3⟩ := h2.1 (by omega)
        exact ⟨a1, a2, fun _ => a3, fun _ => a0, fun z => absurd z e⟩
    | succ m ih =>
      intro i τ hi h
      have hs := h.2 (8 + i)
      refine st_go hK rfl rfl ?_
      refine st_go hK rfl rfl ?_
      refine st_ifn hK rfl rfl (nI_leI (a := 15) (b := 8 + i) (by omega) (by omega)) (fun c => absurd c (by omega)) (fun _ => ?_)
      refine st_go hK rfl rfl ?_
      refine st_go hK rfl rfl ?_
      refine st_getr hK rfl qf_146_8 ?_
      refine st_go hK rfl rfl ?_
      refine ga (e := 8 + i) (v := σ 150 (8 + i)) hK rfl qa_150 rfl (by omega) rfl ((hs.2 (by omega)).1) ?_
      refine bnv (v := nI (jcN (mv σ) 1 (i + 1))) hK rfl (hM.jc (by omega)) ?_
      refine st_go hK rfl rfl ?_
      change K _ [some (.ref 146), some (.int (nI (jcN (mv σ) 1 (i + 1)))), some (.int (nI (8 + i)))] _ _
      refine st_go hK rfl rfl ?_
      refine st_go hK rfl rfl ?_
      refine cv1 hK rfl qc_146 (Nat.le_of_ble_eq_true rfl) ?_
      refine z_goes (by omega) ?_
      change K _ _ _ _
      refine st_go hK rfl rfl ?_
      rw [nI_1]
      refine st_go hK rfl rfl ?_
      refine ih (i + 1) _ (by omega) ⟨fun p hp => ?_, fun x => ?_⟩
      · rw [up_ne (by omega), up_ne (by omega), up_ne (by omega), up_ne (by omega)]
        exact h.1 p hp
      · have h2 := h.2 x
        clear ih kk
        simp only [up_at]
        grind (splits := 40)
  refine st_go hK rfl rfl ?_
  refine st_go hK rfl rfl ?_
  refine st_go hK rfl rfl ?_
  refine st_go hK rfl rfl ?_
  exact loop1 7 0 σ (by omega) ⟨fun _ _ => rfl, fun x => ⟨fun z => by omega, fun _ => ⟨rfl, rfl, rfl, rfl⟩⟩⟩
/-- laid aside -/
def AS (σ τ : cw_V) (i : Nat) : Prop := (∀ p, p ≠ 154 → τ p = σ p) ∧ ∀ x, x < i → τ 154 x = σ 150 x ∧ τ 154 (15 + x) = σ 151 x ∧ τ 154 (30 + x) = σ 152 x ∧ τ 154 (45 + x) = σ 153 x
theorem z_laysAside (kk : ∀ τ, AS σ τ 15 → Q none (cw_B τ lam)) : cw_Z (d + 1) m_Mo_laysAside [.ref 146] (cw_B σ lam) Q := by
  refine zi (L := [some (.ref 146), none]) rfl rfl (fun K hK => ?_)
  have loop : ∀ m i τ, i + m = 15 → AS σ τ i → K 2 [some (.ref 146), some (.int (nI i))] [] (cw_B τ lam) := by
    intro m
    induction m with
    | zero =>
      intro i τ hi h
      obtain rfl : i = 15 := by omega
      refine st_go hK rfl rfl ?_
      refine st_go hK rfl rfl ?_
      refine st_ifn hK rfl rfl (nI_leI (a := 15) (b := 15) (by omega) (by omega)) (fun _ => ?_) (fun c => absurd (by omega) c)
      refine st_ret hK rfl rfl ?_
      exact kk τ h
    | succ m ih =>
      intro i τ hi h
      refine st_go hK rfl rfl ?_
      refine st_go hK rfl rfl ?_
      refine st_ifn hK rfl rfl (nI_leI (a := 15) (b := i) (by omega) (by omega)) (fun c => absurd c (by omega)) (fun _ => ?_)
      refine st_go hK rfl rfl ?_
      refine st_getr hK rfl qf_146_12 ?_
      refine st_go hK rfl rfl ?_
      refine st_go hK rfl rfl ?_
      refine st_getr hK rfl qf_146_8 ?_
      refine st_go hK rfl rfl ?_
      refine ga (e := i) (v := σ 150 i) hK rfl qa_150 rfl (by omega) rfl (congrFun (h.1 150 (by decide)) _) ?_
      refine sa (e := i) hK rfl qa_154 rfl (by omega) rfl ?_
      refine st_go hK rfl rfl ?_
      refine st_getr hK rfl qf_146_12 ?_
      refine st_go hK rfl rfl ?_
      refine st_go hK rfl rfl ?_
      refine bnv hK rfl (show _ = nI (15 + i) from nI_add 15 i) ?_
      refine st_go hK rfl rfl ?_
      refine st_getr hK rfl qf_146_9 ?_
      refine st_go hK rfl rfl ?_
      refine ga (e := i) (v := σ 151 i) hK rfl qa_151 rfl (by omega) rfl (by rw [up_ne (by decide), (congrFun (h.1 151 (by decide)) _)]) ?_
      refine sa (e := 15 + i) hK rfl qa_154 rfl (by omega) rfl ?_
      refine st_go hK rfl rfl ?_
      refine st_getr hK rfl qf_146_12 ?_
      refine st_go hK rfl rfl ?_
      refine st_go hK rfl rfl ?_
      refine bnv hK rfl (show _ = nI (30 + i) from nI_add 30 i) ?_
      refine st_go hK rfl rfl ?_
      refine st_getr hK rfl qf_146_10 ?_
      refine st_go hK rfl rfl ?_
      refine ga (e := i) (v := σ 152 i) hK rfl qa_152 rfl (by omega) rfl (by rw [up_ne (by decide), up_ne (by decide), (congrFun (h.1 152 (by decide)) _)]) ?_
      refine sa (e := 30 + i) hK rfl qa_154 rfl (by omega) rfl ?_
      refine st_go hK rfl rfl ?_
      refine st_getr hK rfl qf_146_12 ?_
      refine st_go hK rfl rfl ?_
      refine st_go hK rfl rfl ?_
      refine bnv hK rfl (show _ = nI (45 + i) from nI_add 45 i) ?_
      refine st_go hK rfl rfl ?_
      refine st_getr hK rfl qf_146_11 ?_
      refine st_go hK rfl rfl ?_
      refine ga (e := i) (v := σ 153 i) hK rfl qa_153 rfl (by omega) rfl (by rw [up_ne (by decide), up_ne (by decide), up_ne (by decide), (congrFun (h.1 153 (by decide)) _)]) ?_
      refine sa (e := 45 + i) hK rfl qa_154 rfl (by omega) rfl ?_
      refine st_go hK rfl rfl ?_
      rw [nI_1]
      refine st_go hK rfl rfl ?_
      refine ih (i + 1) _ (by omega) ⟨fun p hp => ?_, fun x hx => ?_⟩
      · rw [up_ne hp, up_ne hp, up_ne hp, up_ne hp]
        exact h.1 p hp
      · have h2 := h.2 x
        clear ih kk
        simp only [up_at]
        grind (splits := 40)
  refine st_go hK rfl rfl ?_
  refine st_go hK rfl rfl ?_
  exact loop 15 0 σ (by omega) ⟨fun _ _ => rfl, fun x hx => by omega⟩
/-- taken back -/
def TB (σ τ : cw_V) (i : Nat) : Prop := (∀ p, (p < 150 ∨ 153 < p) → τ p = σ p) ∧ ∀ x, x < i → τ 150 x = σ 154 x ∧ τ 151 x = σ 154 (15 + x) ∧ τ 152 x = σ 154 (30 + x) ∧ τ 153 x = σ 154 (45 + x)
theorem z_takesBack (kk : ∀ τ, TB σ τ 15 → Q none (cw_B τ lam)) : cw_Z (d + 1) m_Mo_takesBack [.ref 146] (cw_B σ lam) Q := by
  refine zi (L := [some (.ref 146), none]) rfl rfl (fun K hK => ?_)
  have loop : ∀ m i τ, i + m = 15 → TB σ τ i → K 2 [some (.ref 146), some (.int (nI i))] [] (cw_B τ lam) := by
    intro m
    induction m with
    | zero =>
      intro i τ hi h
      obtain rfl : i = 15 := by omega
      refine st_go hK rfl rfl ?_
      refine st_go hK rfl rfl ?_
      refine st_ifn hK rfl rfl (nI_leI (a := 15) (b := 15) (by omega) (by omega)) (fun _ => ?_) (fun c => absurd (by omega) c)
      refine st_ret hK rfl rfl ?_
      exact kk τ h
    | succ m ih =>
      intro i τ hi h
      refine st_go hK rfl rfl ?_
      refine st_go hK rfl rfl ?_
      refine st_ifn hK rfl rfl (nI_leI (a := 15) (b := i) (by omega) (by omega)) (fun c => absurd c (by omega)) (fun _ => ?_)
      refine st_go hK rfl rfl ?_
      refine st_getr hK rfl qf_146_8 ?_
      refine st_go hK rfl rfl ?_
      refine st_go hK rfl rfl ?_
      refine st_getr hK rfl qf_146_12 ?_
      refine st_go hK rfl rfl ?_
      refine ga (e := i) (v := σ 154 i) hK rfl qa_154 rfl (by omega) rfl (congrFun (h.1 154 (by decide)) _) ?_
      refine sa (e := i) hK rfl qa_150 rfl (by omega) rfl ?_
      refine st_go hK rfl rfl ?_
      refine st_getr hK rfl qf_146_9 ?_
      refine st_go hK rfl rfl ?_
      refine st_go hK rfl rfl ?_
      refine st_getr hK rfl qf_146_12 ?_
      refine st_go hK rfl rfl ?_
      refine st_go hK rfl rfl ?_
      refine bnv hK rfl (show _ = nI (15 + i) from nI_add 15 i) ?_
      refine ga (e := 15 + i) (v := σ 154 (15 + i)) hK rfl qa_154 rfl (by omega) rfl (by rw [up_ne (by decide), (congrFun (h.1 154 (by decide)) _)]) ?_
      refine sa (e := i) hK rfl qa_151 rfl (by omega) rfl ?_
      refine st_go hK rfl rfl ?_
      refine st_getr hK rfl qf_146_10 ?_
      refine st_go hK rfl rfl ?_
      refine st_go hK rfl rfl ?_
      refine st_getr hK rfl qf_146_12 ?_
      refine st_go hK rfl rfl ?_
      refine st_go hK rfl rfl ?_
      refine bnv hK rfl (show _ = nI (30 + i) from nI_add 30 i) ?_
      refine ga (e := 30 + i) (v := σ 154 (30 + i)) hK rfl qa_154 rfl (by omega) rfl (by rw [up_ne (by decide), up_ne (by decide), (congrFun (h.1 154 (by decide)) _)]) ?_
      refine sa (e := i) hK rfl qa_152 rfl (by omega) rfl ?_
      refine st_go hK rfl rfl ?_
      refine st_getr hK rfl qf_146_11 ?_
      refine st_go hK rfl rfl ?_
      refine st_go hK rfl rfl ?_
      refine st_getr hK rfl qf_146_12 ?_
      refine st_go hK rfl rfl ?_
      refine st_go hK rfl rfl ?_
      refine bnv hK rfl (show _ = nI (45 + i) from nI_add 45 i) ?_
      refine ga (e := 45 + i) (v := σ 154 (45 + i)) hK rfl qa_154 rfl (by omega) rfl (by rw [up_ne (by decide), up_ne (by decide), up_ne (by decide), (congrFun (h.1 154 (by decide)) _)]) ?_
      refine sa (e := i) hK rfl qa_153 rfl (by omega) rfl ?_
      refine st_go hK rfl rfl ?_
      rw [nI_1]
      refine st_go hK rfl rfl ?_
      refine ih (i + 1) _ (by omega) ⟨fun p hp => ?_, fun x hx => ?_⟩
      · rw [up_ne (by omega), up_ne (by omega), up_ne (by omega), up_ne (by omega)]
        exact h.1 p hp
      · have h2 := h.2 x
        clear ih kk
        simp only [up_at]
        grind (splits := 40)
  refine st_go hK rfl rfl ?_
  refine st_go hK rfl rfl ?_
  exact loop 15 0 σ (by omega) ⟨fun _ _ => rfl, fun x hx => by omega⟩
end

