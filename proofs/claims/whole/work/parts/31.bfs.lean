/-! THE LIST OF A FOREST IS GOOD -/
def WF (σ : cw_V) (t s : Nat) : Prop := σ t 8 = nI s ∧ WFt s (σ (t + 6)) (σ (t + 7)) (σ (t + 8))
theorem gd_l {D X : List Int32} {k : Nat} (h : k < D.length) : (D ++ X).getD k 0 = D.getD k 0 := by
  rw [List.getD_eq_getElem?_getD, List.getD_eq_getElem?_getD, List.getElem?_append_left h]
theorem gd_0 {D : List Int32} {x y : Int32} : (D ++ [x, y]).getD D.length 0 = x := by
  rw [List.getD_eq_getElem?_getD, List.getElem?_append_right (Nat.le_refl _)]
  simp
theorem gd_1 {D : List Int32} {x y : Int32} : (D ++ [x, y]).getD (D.length + 1) 0 = y := by
  rw [List.getD_eq_getElem?_getD, List.getElem?_append_right (by omega)]
  simp
theorem gd_z {D : List Int32} {x : Int32} : (D ++ [x]).getD D.length 0 = x := by
  rw [List.getD_eq_getElem?_getD, List.getElem?_append_right (Nat.le_refl _)]
  simp
section
variable {σ : cw_V} {t s : Nat}
theorem hNode_N (h8 : σ t 8 = nI s) (hs : s ≤ 8) {m : Int32} : hNode σ t m ↔ ∃ n, n < 15 ∧ m = nI n ∧ nodeN s (σ (t + 6)) n := by
  constructor
  · rintro ⟨h1, h2, h3⟩
    have e0 : (0 : Int32).toInt = 0 := by decide
    have e15 : (15 : Int32).toInt = 15 := by decide
    have e8 : (8 : Int32).toInt = 8 := by decide
    obtain ⟨n, hn, rfl⟩ := nI_of (Int32.not_lt.mpr h1)
    have hn15 : n < 15 := (lit_lt (a := 15) (by decide) hn).mp h2
    refine ⟨n, hn15, rfl, ?_⟩
    rcases h3 with h3 | h3
    · rw [h8] at h3
      exact Or.inl ((nI_ltI (by omega) (by omega)).mp h3.2)
    · rw [nI_clamp hn] at h3
      exact Or.inr ⟨(lit_le (a := 8) (by decide) hn).mp h3.1, hn15, h3.2⟩
  · rintro ⟨n, hn, rfl, hN⟩
    refine ⟨nI_pos' (by omega), (lit_lt (a := 15) (by decide) (by omega)).mpr hn, ?_⟩
    rcases hN with h | h
    · refine Or.inl ⟨(lit_lt (a := 8) (by decide) (by omega)).mpr (by omega), ?_⟩
      rw [h8]
      exact nI_lt h (by omega)
    · refine Or.inr ⟨(lit_le (a := 8) (by decide) (by omega)).mpr h.1, ?_⟩
      rw [nI_clamp (by omega)]
      exact h.2.2
theorem WF.node (h : WF σ t s) {n : Nat} (hn : nodeN s (σ (t + 6)) n) : hNode σ t (nI n) := (hNode_N h.1 h.2.1).mpr ⟨n, h.2.lt hn, rfl, hn⟩
theorem WF.nn (h : WF σ t s) {m : Int32} (hm : hNode σ t m) : ∃ n, n < 15 ∧ m = nI n ∧ nodeN s (σ (t + 6)) n := (hNode_N h.1 h.2.1).mp hm
theorem WF.joint (h : WF σ t s) {m : Int32} (hm : hJoint σ t m) : ∃ n, 8 ≤ n ∧ n < 15 ∧ m = nI n ∧ σ (t + 6) n ≠ -1 := by
  obtain ⟨n, hn, rfl, hN⟩ := h.nn hm.node
  have h1 := hm.1
  have h2 : 8 ≤ n := (lit_le (a := 8) (by decide) (by omega)).mp h1
  exact ⟨n, h2, hn, rfl, (hJoint_nI h2 hn).mp hm⟩
theorem WF.top (h : WF σ t s) {n : Nat} (hn : n < 15) : hTop σ t (nI n) ↔ nodeN s (σ (t + 6)) n ∧ σ (t + 8) n = -1 := by
  unfold hTop
  rw [nI_clamp (by omega)]
  constructor
  · rintro ⟨h1, h2⟩
    obtain ⟨n', hn', e, hN⟩ := h.nn h1
    cases nI_inj (by omega) (by omega) e
    exact ⟨hN, h2⟩
  · rintro ⟨h1, h2⟩
    exact ⟨h.node h1, h2⟩
/-- the tops: ascending, complete -/
theorem tl_ok (h : WF σ t s) : ∀ m, m ≤ 15 → (∀ k, k < (tlF σ t m).length → ∃ n, n < m ∧ (tlF σ t m).getD k 0 = nI n ∧ nodeN s (σ (t + 6)) n ∧ σ (t + 8) n = -1) ∧ (∀ k k', k < (tlF σ t m).length → k' < (tlF σ t m).length → (tlF σ t m).getD k 0 = (tlF σ t m).getD k' 0 → k = k') ∧ (∀ n, n < m → nodeN s (σ (t + 6)) n → σ (t + 8) n = -1 → ∃ k, k < (tlF σ t m).length ∧ (tlF σ t m).getD k 0 = nI n)
  | 0, _ => ⟨fun k hk => absurd hk (Nat.not_lt_zero k), fun k k' hk => absurd hk (Nat.not_lt_zero k), fun n hn => absurd hn (Nat.not_lt_zero n)⟩
  | m + 1, hm => by
    obtain ⟨i1, i2, i3⟩ := tl_ok h m (by omega)
    cases e : topB σ t m with
    | false =>
      have e2 : tlF σ t (m + 1) = tlF σ t m := by
        show (bif topB σ t m then _ else _) = _
        rw [e]
        rfl
      rw [e2]
      refine ⟨fun k hk => ?_, i2, fun n hn h1 h2 => ?_⟩
      · obtain ⟨n, a, b⟩ := i1 k hk
        exact ⟨n, by omega, b⟩
      · rcases Nat.lt_or_ge n m with z | z
        · exact i3 n z h1 h2
        · have : n = m := by omega
          subst this
          have := (topB_iff (by omega)).mpr ((h.top (by omega)).mpr ⟨h1, h2⟩)
          rw [e] at this
          cases this
    | true =>
      have e2 : tlF σ t (m + 1) = tlF σ t m ++ [nI m] := by
        show (bif topB σ t m then _ else _) = _
        rw [e]
        rfl
      have ht := (h.top (by omega)).mp ((topB_iff (by omega)).mp e)
      rw [e2]
      have hlen : (tlF σ t m ++ [nI m]).length = (tlF σ t m).length + 1 := by simp
      have last : ∀ k, k < (tlF σ t m ++ [nI m]).length → k < (tlF σ t m).length ∨ k = (tlF σ t m).length := fun k hk => by omega
      refine ⟨fun k hk => ?_, fun k k' hk hk' ee => ?_, fun n hn h1 h2 => ?_⟩
      · rcases last k hk with z | z
        · rw [gd_l z]
          obtain ⟨n, a, b⟩ := i1 k z
          exact ⟨n, by omega, b⟩
        · subst z
          exact ⟨m, by omega, gd_z, ht⟩
      · rcases last k hk with z | z
        · rw [gd_l z] at ee
          rcases last k' hk' with z' | z'
          · rw [gd_l z'] at ee
            exact i2 k k' z z' ee
          · subst z'
            rw [gd_z] at ee
            obtain ⟨n, a, b, _⟩ := i1 k z
            have := nI_inj (by omega) (by omega) (b.symm.trans ee)
            omega
        · subst z
          rw [gd_z] at ee
          rcases last k' hk' with z' | z'
          · rw [gd_l z'] at ee
            obtain ⟨n, a, b, _⟩ := i1 k' z'
            have := nI_inj (by omega) (by omega) (b.symm.trans ee.symm)
            omega
          · omega
      · rcases Nat.lt_or_ge n m with z | z
        · obtain ⟨k, a, b⟩ := i3 n z h1 h2
          exact ⟨k, by omega, by rw [gd_l a]; exact b⟩
        · have : n = m := by omega
          subst this
          exact ⟨(tlF σ t n).length, by omega, gd_z⟩
/-- what holds of the list while it grows -/
def BI (σ : cw_V) (t s : Nat) (D : List Int32) (tc i : Nat) : Prop := (∀ k, k < D.length → ∃ n, n < 15 ∧ D.getD k 0 = nI n ∧ nodeN s (σ (t + 6)) n) ∧ (∀ k k', k < D.length → k' < D.length → D.getD k 0 = D.getD k' 0 → k = k') ∧ (tc ≤ D.length ∧ ∀ k, k < tc → σ (t + 8) (nd (D.getD k 0)) = -1) ∧
  (∀ c, tc ≤ c → c < D.length → ∃ k, k < i ∧ k < c ∧ σ (t + 8) (nd (D.getD c 0)) = D.getD k 0) ∧
  (∀ k, k < i → k < D.length → hJoint σ t (D.getD k 0) → ∃ ka kb, k < ka ∧ ka < D.length ∧ k < kb ∧ kb < D.length ∧ ka ≠ kb ∧ D.getD ka 0 = lfT σ t (D.getD k 0) ∧ D.getD kb 0 = rtT σ t (D.getD k 0)) ∧
  (∀ n, nodeN s (σ (t + 6)) n → σ (t + 8) n = -1 → ∃ k, k < tc ∧ D.getD k 0 = nI n)
theorem BI.len {D : List Int32} {tc i : Nat} (h : BI σ t s D tc i) : D.length ≤ 15 := by
  refine php 15 D.length (fun k => nd (D.getD k 0)) (fun k hk => ?_) (fun k k' hk hk' e => ?_)
  · obtain ⟨n, a, b, _⟩ := h.1 k hk
    show nd (D.getD k 0) < 15
    rw [b, show nd (nI n) = n from nI_clamp (by omega)]
    exact a
  · obtain ⟨n, a, b, _⟩ := h.1 k hk
    obtain ⟨n', a', b', _⟩ := h.1 k' hk'
    have e : nd (D.getD k 0) = nd (D.getD k' 0) := e
    rw [b, b', show nd (nI n) = n from nI_clamp (by omega), show nd (nI n') = n' from nI_clamp (by omega)] at e
    exact h.2.1 k k' hk hk' (by rw [b, b', e])
theorem BI.keep {D : List Int32} {tc i : Nat} (h : BI σ t s D tc i) (hi : i < D.length) (hj : ¬ hJoint σ t (D.getD i 0)) : BI σ t s D tc (i + 1) := by
  obtain ⟨b1, b2, b3, b4, b5, b6⟩ := h
  refine ⟨b1, b2, b3, fun c h1 h2 => ?_, fun k h1 h2 h3 => ?_, b6⟩
  · obtain ⟨k, x, y⟩ := b4 c h1 h2
    exact ⟨k, by omega, y⟩
  · rcases Nat.lt_or_ge k i with z | z
    · exact b5 k z h2 h3
    · have : k = i := by omega
      subst this
      exact absurd h3 hj
theorem BI.grow (hW : WF σ t s) {D : List Int32} {tc i : Nat} (h : BI σ t s D tc i) (hi : i < D.length) (hj : hJoint σ t (D.getD i 0)) : BI σ t s (D ++ [σ (t + 6) (D.getD i 0).toNatClampNeg, σ (t + 7) (D.getD i 0).toNatClampNeg]) tc (i + 1) := by
  obtain ⟨b1, b2, b3, b4, b5, b6⟩ := h
  obtain ⟨j, j8, j15, ej, jl⟩ := hW.joint hj
  have cj : (D.getD i 0).toNatClampNeg = j := by rw [ej]; exact nI_clamp (by omega)
  obtain ⟨a, b, ea, eb, na, nb, nab, pa_a, pa_b⟩ := hW.2.dn j8 j15 jl
  have la := hW.2.lt na
  have lb := hW.2.lt nb
  rw [cj, ea, eb]
  have hlen : (D ++ [nI a, nI b]).length = D.length + 2 := by simp
  -- a child isn't there yet
  have fresh : ∀ x, x < 15 → σ (t + 8) x = nI j → ∀ k, k < D.length → D.getD k 0 ≠ nI x := by
    intro x hx px k hk e
    rcases Nat.lt_or_ge k tc with z | z
    · have := b3.2 k z
      rw [e, show nd (nI x) = x from nI_clamp (by omega), px] at this
      exact nI_ne1 (by omega) this
    · obtain ⟨k', k1, k2, k3⟩ := b4 k z hk
      rw [e, show nd (nI x) = x from nI_clamp (by omega), px] at k3
      have := b2 i k' hi (by omega) (ej.trans k3)
      omega
  have cases3 : ∀ k, k < (D ++ [nI a, nI b]).length → k < D.length ∨ k = D.length ∨ k = D.length + 1 := fun k hk => by omega
  refine ⟨fun k hk => ?_, fun k k' hk hk' e => ?_, ⟨by omega, fun k hk => ?_⟩, fun c h1 h2 => ?_, fun k h1 h2 h3 => ?_, fun n h1 h2 => ?_⟩
  · rcases cases3 k hk with z | z | z
    · rw [gd_l z]
      exact b1 k z
    · subst z
      exact ⟨a, la, gd_0, na⟩
    · subst z
      exact ⟨b, lb, gd_1, nb⟩
  · rcases cases3 k hk with z | z | z
    · rw [gd_l z] at e
      rcases cases3 k' hk' with z' | z' | z'
      · rw [gd_l z'] at e
        exact b2 k k' z z' e
      · subst z'
        rw [gd_0] at e
        exact absurd e (fresh a la pa_a k z)
      · subst z'
        rw [gd_1] at e
        exact absurd e (fresh b lb pa_b k z)
    · subst z
      rw [gd_0] at e
      rcases cases3 k' hk' with z' | z' | z'
      · rw [gd_l z'] at e
        exact absurd e.symm (fresh a la pa_a k' z')
      · omega
      · subst z'
        rw [gd_1] at e
        exact absurd (nI_inj (by omega) (by omega) e) nab
    · subst z
      rw [gd_1] at e
      rcases cases3 k' hk' with z' | z' | z'
      · rw [gd_l z'] at e
        exact absurd e.symm (fresh b lb pa_b k' z')
      · subst z'
        rw [gd_0] at e
        exact absurd (nI_inj (by omega) (by omega) e.symm) nab
      · omega
  · rw [gd_l (by omega)]
    exact b3.2 k hk
  · rcases cases3 c h2 with z | z | z
    · rw [gd_l z]
      obtain ⟨k, x, y, w⟩ := b4 c h1 z
      exact ⟨k, by omega, y, by rw [gd_l (by omega)]; exact w⟩
    · subst z
      refine ⟨i, by omega, hi, ?_⟩
      rw [gd_0, gd_l hi, show nd (nI a) = a from nI_clamp (by omega), pa_a, ej]
    · subst z
      refine ⟨i, by omega, by omega, ?_⟩
      rw [gd_1, gd_l hi, show nd (nI b) = b from nI_clamp (by omega), pa_b, ej]
  · rcases Nat.lt_or_ge k i with z | z
    · rw [gd_l (by omega)] at h3 ⊢
      obtain ⟨ka, kb, a1, a2, c1, c2, c3, c4, c5⟩ := b5 k z (by omega) h3
      exact ⟨ka, kb, a1, by omega, c1, by omega, c3, by rw [gd_l a2]; exact c4, by rw [gd_l c2]; exact c5⟩
    · have : k = i := by omega
      subst this
      rw [gd_l hi]
      refine ⟨D.length, D.length + 1, hi, by omega, by omega, by omega, by omega, ?_, ?_⟩
      · rw [gd_0]
        unfold lfT
        rw [show nd (D.getD k 0) = j from cj, ea]
      · rw [gd_1]
        unfold rtT
        rw [show nd (D.getD k 0) = j from cj, eb]
  · obtain ⟨k, x, y⟩ := b6 n h1 h2
    exact ⟨k, x, by rw [gd_l (by omega)]; exact y⟩
theorem bf_ok (hW : WF σ t s) {tc : Nat} : ∀ (f i : Nat) (D : List Int32), BI σ t s D tc i → i ≤ D.length → i + f = 16 → BI σ t s (bf σ t f i D) tc (bf σ t f i D).length
  | 0, i, D, hB, hi, hf => by
    have := hB.len
    omega
  | f + 1, i, D, hB, hi, hf => by
    rcases Nat.lt_or_ge i D.length with z | z
    · have hget : D[i]? = some (D.getD i 0) := by rw [List.getD_eq_getElem?_getD, List.getElem?_eq_getElem z]; rfl
      rw [bf_s hget]
      cases e : hJointB σ t (D.getD i 0) with
      | true =>
        have hB1 := hB.grow hW z (hJointB_iff.mp e)
        exact bf_ok hW f (i + 1) _ hB1 (by simp; omega) (by omega)
      | false =>
        have hB1 := hB.keep z (fun q => by rw [hJointB_iff.mpr q] at e; cases e)
        exact bf_ok hW f (i + 1) _ hB1 (by show i + 1 ≤ D.length; omega) (by omega)
    · rw [bf_0 z]
      have : i = D.length := by omega
      rw [this] at hB
      exact hB
theorem dn_ok (hW : WF σ t s) : BI σ t s (dnF σ t) (tlF σ t 15).length (dnF σ t).length := by
  obtain ⟨i1, i2, i3⟩ := tl_ok hW 15 (Nat.le_refl _)
  refine bf_ok hW 16 0 (tlF σ t 15) ⟨fun k hk => ?_, i2, ⟨Nat.le_refl _, fun k hk => ?_⟩, fun c h1 h2 => absurd h2 (by omega), fun k h1 => absurd h1 (Nat.not_lt_zero k), fun n h1 h2 => i3 n (hW.2.lt h1) h1 h2⟩ (Nat.zero_le _) rfl
  · obtain ⟨n, a, b, c, _⟩ := i1 k hk
    exact ⟨n, a, b, c⟩
  · obtain ⟨n, a, b, _, c⟩ := i1 k hk
    rw [b, show nd (nI n) = n from nI_clamp (by omega)]
    exact c
theorem dn_GD (hW : WF σ t s) : GD σ t (dnF σ t) (tlF σ t 15).length := by
  have hB := dn_ok hW
  have hlen := hB.len
  obtain ⟨b1, b2, b3, b4, b5, b6⟩ := hB
  have ndinj : ∀ k k', k < (dnF σ t).length → k' < (dnF σ t).length → nd ((dnF σ t).getD k 0) = nd ((dnF σ t).getD k' 0) → k = k' := fun k k' hk hk' e => by
    obtain ⟨n, a, b, _⟩ := b1 k hk
    obtain ⟨n', a', b', _⟩ := b1 k' hk'
    rw [b, b', show nd (nI n) = n from nI_clamp (by omega), show nd (nI n') = n' from nI_clamp (by omega)] at e
    exact b2 k k' hk hk' (by rw [b, b', e])
  -- the joint above a child
  have par : ∀ k c, k < (dnF σ t).length → c < (dnF σ t).length → hJoint σ t ((dnF σ t).getD k 0) → ((dnF σ t).getD c 0 = lfT σ t ((dnF σ t).getD k 0) ∨ (dnF σ t).getD c 0 = rtT σ t ((dnF σ t).getD k 0)) → σ (t + 8) (nd ((dnF σ t).getD c 0)) = (dnF σ t).getD k 0 := by
    intro k c hk hc hj hch
    obtain ⟨j, j8, j15, ej, jl⟩ := hW.joint hj
    obtain ⟨a, b, ea, eb, na, nb, nab, pa_a, pa_b⟩ := hW.2.dn j8 j15 jl
    have la := hW.2.lt na
    have lb := hW.2.lt nb
    have cj : nd ((dnF σ t).getD k 0) = j := by rw [ej]; exact nI_clamp (by omega)
    rcases hch with e | e
    · unfold lfT at e
      rw [cj, ea] at e
      rw [e, show nd (nI a) = a from nI_clamp (by omega), pa_a, ej]
    · unfold rtT at e
      rw [cj, eb] at e
      rw [e, show nd (nI b) = b from nI_clamp (by omega), pa_b, ej]
  refine ⟨⟨hlen, b3.1⟩, fun k hk => ?_, fun k hk hj => b5 k hk hk hj, ndinj, fun k k' c hk hk' hc hj hj' h1 h2 => ?_, fun k c hk hc hj hch => ?_⟩
  · obtain ⟨n, a, b, c⟩ := b1 k hk
    rw [b]
    exact hW.node c
  · exact b2 k k' hk hk' ((par k c hk hc hj h1).symm.trans (par k' c hk' hc hj' h2))
  · rcases Nat.lt_or_ge c (tlF σ t 15).length with z | z
    · have h1 := b3.2 c z
      rw [par k c hk hc hj hch] at h1
      obtain ⟨n, a, b, _⟩ := b1 k hk
      exact absurd (b.symm.trans h1) (nI_ne1 (by omega))
    · exact z
/-- all nodes are in the list -/
theorem dn_all (hW : WF σ t s) {n : Nat} (hn : nodeN s (σ (t + 6)) n) : ∃ k, k < (dnF σ t).length ∧ (dnF σ t).getD k 0 = nI n := by
  obtain ⟨b1, b2, b3, b4, b5, b6⟩ := dn_ok hW
  obtain ⟨ρ, hρ⟩ := hW.2.2.2.2.2.2
  have key : ∀ r n, nodeN s (σ (t + 6)) n → ρ n = r → ∃ k, k < (dnF σ t).length ∧ (dnF σ t).getD k 0 = nI n := by
    intro r
    induction r with
    | zero =>
      intro n hn hr
      by_cases hp : σ (t + 8) n = -1
      · obtain ⟨k, x, y⟩ := b6 n hn hp
        exact ⟨k, by omega, y⟩
      · obtain ⟨j, j1, j2, j3, _⟩ := hW.2.up hn hp
        have := (hρ n hn).2 j j2 j3
        omega
    | succ r ih =>
      intro n hn hr
      by_cases hp : σ (t + 8) n = -1
      · obtain ⟨k, x, y⟩ := b6 n hn hp
        exact ⟨k, by omega, y⟩
      · obtain ⟨j, j1, j2, j3, j4, j5, j6⟩ := hW.2.up hn hp
        have := (hρ n hn).2 j j2 j3
        obtain ⟨k, x, y⟩ := ih j j5 (by omega)
        have hj : hJoint σ t ((dnF σ t).getD k 0) := by rw [y]; exact (hJoint_nI j1 j2).mpr j4
        obtain ⟨ka, kb, a1, a2, c1, c2, c3, c4, c5⟩ := b5 k x x hj
        unfold lfT at c4
        unfold rtT at c5
        rw [y, show nd (nI j) = j from nI_clamp (by omega)] at c4 c5
        rcases j6 with e | e
        · exact ⟨ka, a2, c4.trans e⟩
        · exact ⟨kb, c2, c5.trans e⟩
  exact key (ρ n) n hn rfl
/-- behind the tops each node's joint stands before it -/
theorem dn_par (hW : WF σ t s) {i : Nat} (h1 : (tlF σ t 15).length ≤ i) (h2 : i < (dnF σ t).length) : ∃ k, k < i ∧ (dnF σ t).getD k 0 = pof σ t ((dnF σ t).getD i 0) := by
  obtain ⟨b1, b2, b3, b4, b5, b6⟩ := dn_ok hW
  obtain ⟨k, _, x, y⟩ := b4 i h1 h2
  obtain ⟨n, a, b, c⟩ := b1 i h2
  refine ⟨k, x, ?_⟩
  rw [pof_1 (by rw [b]; exact hW.node c)]
  exact y.symm
end
