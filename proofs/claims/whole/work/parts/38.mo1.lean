/-! THE MODEL: small things -/
section
variable {d : Nat} {σ : cw_V} {lam : Nat → Int64} {Q : cw_Q}
theorem z_mbad (kk : Q (some (.int (-2))) (cw_B (cw_up σ 147 0 (σ 147 0 + 1)) lam)) : cw_Z (d + 1) m_Mo_bad [.ref 146] (cw_B σ lam) Q := by
  refine zi (L := [some (.ref 146)]) rfl rfl (fun K hK => ?_)
  refine st_go hK rfl rfl ?_
  refine st_getr hK rfl qf_146_0 ?_
  refine st_go hK rfl rfl ?_
  refine st_go hK rfl rfl ?_
  refine ga (e := 0) (v := σ 147 0) hK rfl qa_147 rfl (by decide) rfl rfl ?_
  refine st_go hK rfl rfl ?_
  refine st_bin hK rfl ?_
  refine sa (e := 0) hK rfl qa_147 rfl (by decide) rfl ?_
  refine st_go hK rfl rfl ?_
  refine st_ret hK rfl rfl ?_
  exact kk
theorem z_mno (kk : Q (some (.int (-3))) (cw_B (cw_up σ 147 1 (σ 147 1 + 1)) lam)) : cw_Z (d + 1) m_Mo_no [.ref 146] (cw_B σ lam) Q := by
  refine zi (L := [some (.ref 146)]) rfl rfl (fun K hK => ?_)
  refine st_go hK rfl rfl ?_
  refine st_getr hK rfl qf_146_0 ?_
  refine st_go hK rfl rfl ?_
  refine st_go hK rfl rfl ?_
  refine ga (e := 1) (v := σ 147 1) hK rfl qa_147 rfl (by decide) rfl rfl ?_
  refine st_go hK rfl rfl ?_
  refine st_bin hK rfl ?_
  refine sa (e := 1) hK rfl qa_147 rfl (by decide) rfl ?_
  refine st_go hK rfl rfl ?_
  refine st_ret hK rfl rfl ?_
  exact kk
theorem z_mfull (kk : Q (some (.int (-4))) (cw_B (cw_up σ 147 2 (σ 147 2 + 1)) lam)) : cw_Z (d + 1) m_Mo_full [.ref 146] (cw_B σ lam) Q := by
  refine zi (L := [some (.ref 146)]) rfl rfl (fun K hK => ?_)
  refine st_go hK rfl rfl ?_
  refine st_getr hK rfl qf_146_0 ?_
  refine st_go hK rfl rfl ?_
  refine st_go hK rfl rfl ?_
  refine ga (e := 2) (v := σ 147 2) hK rfl qa_147 rfl (by decide) rfl rfl ?_
  refine st_go hK rfl rfl ?_
  refine st_bin hK rfl ?_
  refine sa (e := 2) hK rfl qa_147 rfl (by decide) rfl ?_
  refine st_go hK rfl rfl ?_
  refine st_ret hK rfl rfl ?_
  exact kk
theorem z_min {v lo hi : Int32} {h : cw_H} (k1 : lo ≤ v ∧ v ≤ hi → Q (some (.int 1)) h) (k0 : ¬ (lo ≤ v ∧ v ≤ hi) → Q (some (.int 0)) h) : cw_Z (d + 1) m_Mo_in [.int v, .int lo, .int hi] h Q := by
  refine zi (L := [some (.int v), some (.int lo), some (.int hi)]) rfl rfl (fun K hK => ?_)
  refine st_go hK rfl rfl ?_
  refine st_go hK rfl rfl ?_
  refine st_if hK rfl rfl (fun c2 => ?_) (fun c2 => ?_)
  · refine st_go hK rfl rfl ?_
    refine st_zret hK rfl (Or.inl rfl) ?_
    exact k0 (fun z => by first | exact absurd c2 (Int32.not_lt.mpr z.1) | exact absurd c7 (Int32.not_lt.mpr z.2))
  · refine st_go hK rfl rfl ?_
    refine st_go hK rfl rfl ?_
    refine st_if hK rfl rfl (fun c7 => ?_) (fun c7 => ?_)
    · refine st_go hK rfl rfl ?_
      refine st_zret hK rfl (Or.inl rfl) ?_
      exact k0 (fun z => by first | exact absurd c2 (Int32.not_lt.mpr z.1) | exact absurd c7 (Int32.not_lt.mpr z.2))
    · refine st_go hK rfl rfl ?_
      refine st_go hK rfl rfl ?_
      refine st_zret hK rfl (Or.inr rfl) ?_
      exact k1 ⟨Int32.not_lt.mp c2, Int32.not_lt.mp c7⟩
theorem z_mgreater {v w : Int32} {h : cw_H} (kk : Q (some (.int (mx v w))) h) : cw_Z (d + 1) m_Mo_greater [.int v, .int w] h Q := by
  refine zi (L := [some (.int v), some (.int w)]) rfl rfl (fun K hK => ?_)
  refine st_go hK rfl rfl ?_
  refine st_go hK rfl rfl ?_
  refine st_if hK rfl rfl (fun c2 => ?_) (fun c2 => ?_)
  · refine st_go hK rfl rfl ?_
    refine st_ret hK rfl rfl ?_
    first | (rw [mx_ge c2] at kk; exact kk) | (rw [mx_le c2] at kk; exact kk)
  · refine st_go hK rfl rfl ?_
    refine st_go hK rfl rfl ?_
    refine st_ret hK rfl rfl ?_
    first | (rw [mx_ge c2] at kk; exact kk) | (rw [mx_le c2] at kk; exact kk)
theorem z_mlesser {v w : Int32} {h : cw_H} (kk : Q (some (.int (mn v w))) h) : cw_Z (d + 1) m_Mo_lesser [.int v, .int w] h Q := by
  refine zi (L := [some (.int v), some (.int w)]) rfl rfl (fun K hK => ?_)
  refine st_go hK rfl rfl ?_
  refine st_go hK rfl rfl ?_
  refine st_if hK rfl rfl (fun c2 => ?_) (fun c2 => ?_)
  · refine st_go hK rfl rfl ?_
    refine st_ret hK rfl rfl ?_
    first | (rw [mn_le c2] at kk; exact kk) | (rw [mn_ge c2] at kk; exact kk)
  · refine st_go hK rfl rfl ?_
    refine st_go hK rfl rfl ?_
    refine st_ret hK rfl rfl ?_
    first | (rw [mn_le c2] at kk; exact kk) | (rw [mn_ge c2] at kk; exact kk)
theorem z_msize {v : Int32} {h : cw_H} (kk : Q (some (.int (ab v))) h) : cw_Z (d + 1) m_Mo_size [.int v] h Q := by
  refine zi (L := [some (.int v)]) rfl rfl (fun K hK => ?_)
  refine st_go hK rfl rfl ?_
  refine st_if hK rfl rfl (fun c1 => ?_) (fun c1 => ?_)
  · refine st_go hK rfl rfl ?_
    refine st_ret hK rfl rfl ?_
    unfold ab at kk
    first | (rw [if_pos c1] at kk; exact kk) | (rw [if_neg c1, Int32.zero_sub] at kk; exact kk)
  · refine st_go hK rfl rfl ?_
    refine st_go hK rfl rfl ?_
    refine st_go hK rfl rfl ?_
    refine st_ret hK rfl rfl ?_
    unfold ab at kk
    first | (rw [if_pos c1] at kk; exact kk) | (rw [if_neg c1, Int32.zero_sub] at kk; exact kk)
theorem nI_up {k : Int32} {s : Nat} (h8 : s ≤ 8) : (0 ≤ k ∧ k ≤ nI s - 1) ↔ ∃ i, i < s ∧ k = nI i := by
  cases s with
  | zero => exact ⟨fun h => absurd (Int32.le_trans h.1 h.2) (by decide), fun ⟨i, h, _⟩ => absurd h (by omega)⟩
  | succ s =>
    rw [nI_pred, nI_rg rfl (by omega)]
    exact ⟨fun ⟨i, h1, h2⟩ => ⟨i, by omega, h2⟩, fun ⟨i, h1, h2⟩ => ⟨i, by omega, h2⟩⟩
theorem z_misSink {k : Int32} {s : Nat} (hs : σ 146 1 = nI s) (h8 : s ≤ 8) (k1 : (∃ i, i < s ∧ k = nI i) → Q (some (.int 1)) (cw_B σ lam)) (k0 : ¬ (∃ i, i < s ∧ k = nI i) → Q (some (.int 0)) (cw_B σ lam)) : cw_Z (d + 2) m_Mo_isSink [.ref 146, .int k] (cw_B σ lam) Q := by
  refine zi (L := [some (.ref 146), some (.int k)]) rfl rfl (fun K hK => ?_)
  refine st_go hK rfl rfl ?_
  refine st_go hK rfl rfl ?_
  refine st_go hK rfl rfl ?_
  refine gi (v := nI s) hK rfl qf_146_1 hs ?_
  refine st_go hK rfl rfl ?_
  refine st_bin hK rfl ?_
  refine cs3 hK rfl (Nat.le_of_ble_eq_true rfl) ?_
  refine z_min (fun hi => ?_) (fun hi => ?_)
  · change K _ _ (_ :: _) _
    refine st_zret hK rfl (Or.inr rfl) ?_
    exact k1 ((nI_up h8).mp hi)
  · change K _ _ (_ :: _) _
    refine st_zret hK rfl (Or.inl rfl) ?_
    exact k0 (fun z => hi ((nI_up h8).mpr z))
theorem z_misNode {m : Int32} (k1 : (∃ n, n < 15 ∧ m = nI n ∧ σ 150 n = 1) → Q (some (.int 1)) (cw_B σ lam)) (k0 : ¬ (∃ n, n < 15 ∧ m = nI n ∧ σ 150 n = 1) → Q (some (.int 0)) (cw_B σ lam)) : cw_Z (d + 2) m_Mo_isNode [.ref 146, .int m] (cw_B σ lam) Q := by
  by_cases hm : ∃ n, n < 15 ∧ m = nI n
  · obtain ⟨n, hn, rfl⟩ := hm
    refine zi (L := [some (.ref 146), some (.int (nI n))]) rfl rfl (fun K hK => ?_)
    refine st_go hK rfl rfl ?_
    refine st_go hK rfl rfl ?_
    refine st_go hK rfl rfl ?_
    refine cs3 hK rfl (Nat.le_of_ble_eq_true rfl) ?_
    refine z_min (fun _ => ?_) (fun hi => absurd ((nI_rg (n := 14) rfl (by decide)).mpr ⟨n, by omega, rfl⟩) hi)
    change K _ _ (_ :: _) _
    refine st_if hK rfl rfl (fun c => absurd c (by decide)) (fun _ => ?_)
    refine st_go hK rfl rfl ?_
    refine st_getr hK rfl qf_146_8 ?_
    refine st_go hK rfl rfl ?_
    refine ga (e := n) (v := σ 150 n) hK rfl qa_150 rfl (by omega) rfl rfl ?_
    refine st_go hK rfl rfl ?_
    refine st_if hK rfl rfl (fun c17 => ?_) (fun c17 => ?_)
    · refine st_go hK rfl rfl ?_
      refine st_zret hK rfl (Or.inl rfl) ?_
      exact k0 (fun ⟨i, i1, i2, i3⟩ => c17 (by rw [nI_inj (by omega) (by omega) i2]; exact i3))
    · refine st_go hK rfl rfl ?_
      refine st_go hK rfl rfl ?_
      refine st_zret hK rfl (Or.inr rfl) ?_
      exact k1 ⟨n, hn, rfl, Decidable.not_not.mp c17⟩
  · refine zi (L := [some (.ref 146), some (.int m)]) rfl rfl (fun K hK => ?_)
    refine st_go hK rfl rfl ?_
    refine st_go hK rfl rfl ?_
    refine st_go hK rfl rfl ?_
    refine cs3 hK rfl (Nat.le_of_ble_eq_true rfl) ?_
    refine z_min (fun hi => absurd ((nI_rg (n := 14) rfl (by decide)).mp hi) (fun ⟨i, i1, i2⟩ => hm ⟨i, by omega, i2⟩)) (fun _ => ?_)
    change K _ _ (_ :: _) _
    refine st_if hK rfl rfl (fun _ => ?_) (fun c => absurd (by decide) c)
    refine st_go hK rfl rfl ?_
    refine st_zret hK rfl (Or.inl rfl) ?_
    exact k0 (fun ⟨i, i1, i2, i3⟩ => hm ⟨i, i1, i2⟩)
def spot (x y : Int32) : Prop := (0 ≤ x ∧ x ≤ 63) ∧ 0 ≤ y ∧ y ≤ 63
theorem z_misSpot {x y : Int32} {h : cw_H} (k1 : spot x y → Q (some (.int 1)) h) (k0 : ¬ spot x y → Q (some (.int 0)) h) : cw_Z (d + 2) m_Mo_isSpot [.int x, .int y] h Q := by
  refine zi (L := [some (.int x), some (.int y)]) rfl rfl (fun K hK => ?_)
  refine st_go hK rfl rfl ?_
  refine st_go hK rfl rfl ?_
  refine st_go hK rfl rfl ?_
  refine cs3 hK rfl (Nat.le_of_ble_eq_true rfl) ?_
  refine z_min (fun hi1 => ?_) (fun hi1 => ?_)
  · change K _ _ (_ :: _) _
    refine st_if hK rfl rfl (fun c => absurd c (by decide)) (fun _ => ?_)
    refine st_go hK rfl rfl ?_
    refine st_go hK rfl rfl ?_
    refine st_go hK rfl rfl ?_
    refine cs3 hK rfl (Nat.le_of_ble_eq_true rfl) ?_
    refine z_min (fun hi2 => ?_) (fun hi2 => ?_)
    · change K _ _ (_ :: _) _
      refine st_if hK rfl rfl (fun c => absurd c (by decide)) (fun _ => ?_)
      refine st_go hK rfl rfl ?_
      refine st_go hK rfl rfl ?_
      refine st_zret hK rfl (Or.inr rfl) ?_
      exact k1 ⟨hi1, hi2⟩
    · change K _ _ (_ :: _) _
      refine st_if hK rfl rfl (fun _ => ?_) (fun c => absurd (by decide) c)
      refine st_go hK rfl rfl ?_
      refine st_zret hK rfl (Or.inl rfl) ?_
      exact k0 (fun z => by first | exact hi1 z.1 | exact hi2 z.2)
  · change K _ _ (_ :: _) _
    refine st_if hK rfl rfl (fun _ => ?_) (fun c => absurd (by decide) c)
    refine st_go hK rfl rfl ?_
    refine st_zret hK rfl (Or.inl rfl) ?_
    exact k0 (fun z => by first | exact hi1 z.1 | exact hi2 z.2)
theorem z_misTop {n : Nat} (hn : n < 15) (k1 : σ 153 n = -1 → Q (some (.int 1)) (cw_B σ lam)) (k0 : ¬ σ 153 n = -1 → Q (some (.int 0)) (cw_B σ lam)) : cw_Z (d + 1) m_Mo_isTop [.ref 146, .int (nI n)] (cw_B σ lam) Q := by
  refine zi (L := [some (.ref 146), some (.int (nI n))]) rfl rfl (fun K hK => ?_)
  refine st_go hK rfl rfl ?_
  refine st_getr hK rfl qf_146_11 ?_
  refine st_go hK rfl rfl ?_
  refine ga (e := n) (v := σ 153 n) hK rfl qa_153 rfl (by omega) rfl rfl ?_
  refine st_go hK rfl rfl ?_
  refine st_if hK rfl rfl (fun c7 => ?_) (fun c7 => ?_)
  · refine st_go hK rfl rfl ?_
    refine st_zret hK rfl (Or.inl rfl) ?_
    exact k0 c7
  · refine st_go hK rfl rfl ?_
    refine st_go hK rfl rfl ?_
    refine st_zret hK rfl (Or.inr rfl) ?_
    exact k1 (Decidable.not_not.mp c7)
/-- how many tops there are below m -/
def tmB (σ : cw_V) (n : Nat) : Bool := decide (σ 150 n = 1) && decide (σ 153 n = -1)
def tmC (σ : cw_V) : Nat → Nat
  | 0 => 0
  | m + 1 => tmC σ m + (bif tmB σ m then 1 else 0)
theorem tmC_le {σ : cw_V} : ∀ m, tmC σ m ≤ m
  | 0 => Nat.le_refl _
  | m + 1 => by
    have := tmC_le (σ := σ) m
    unfold tmC
    cases tmB σ m
    · exact Nat.le_succ_of_le this
    · exact Nat.succ_le_succ this
theorem z_topMany (kk : Q (some (.int (nI (tmC σ 15)))) (cw_B σ lam)) : cw_Z (d + 2) m_Mo_topMany [.ref 146] (cw_B σ lam) Q := by
  refine zi (L := [some (.ref 146), none, none]) rfl rfl (fun K hK => ?_)
  have loop : ∀ m i, i + m = 15 → K 4 [some (.ref 146), some (.int (nI (tmC σ i))), some (.int (nI i))] [] (cw_B σ lam) := by
    intro m
    induction m with
    | zero =>
      intro i hi
      obtain rfl : i = 15 := by omega
      refine st_go hK rfl rfl ?_
      refine st_go hK rfl rfl ?_
      refine st_ifn hK rfl rfl (nI_leI (a := 15) (b := 15) (by omega) (by omega)) (fun _ => ?_) (fun c => absurd (by omega) c)
      refine st_go hK rfl rfl ?_
      refine st_ret hK rfl rfl ?_
      exact kk
    | succ m ih =>
      intro i hi
      have hle := tmC_le (σ := σ) i
      refine st_go hK rfl rfl ?_
      refine st_go hK rfl rfl ?_
      refine st_ifn hK rfl rfl (nI_leI (a := 15) (b := i) (by omega) (by omega)) (fun c => absurd c (by omega)) (fun _ => ?_)
      refine st_go hK rfl rfl ?_
      refine st_go hK rfl rfl ?_
      refine st_getr hK rfl qf_146_8 ?_
      refine st_go hK rfl rfl ?_
      refine ga (e := i) (v := σ 150 i) hK rfl qa_150 rfl (by omega) rfl rfl ?_
      refine st_go hK rfl rfl ?_
      refine st_if hK rfl rfl (fun c18 => ?_) (fun c18 => ?_)
      · refine st_go hK rfl rfl ?_
        refine st_bin hK rfl ?_
        refine st_go hK rfl rfl ?_
        refine st_go hK rfl rfl ?_
        refine st_go hK rfl rfl ?_
        rw [nI_1]
        have e : tmC σ (i + 1) = tmC σ i + 0 := by
          show tmC σ i + (bif tmB σ i then 1 else 0) = _
          unfold tmB
          first | (rw [decide_eq_false c18]; rfl) | (rw [decide_eq_false ht, Bool.and_false]; rfl)
        have := ih (i + 1) (by omega)
        rw [e] at this
        first | exact this | (rw [← nI_add] at this; exact this)
      · refine st_go hK rfl rfl ?_
        refine st_go hK rfl rfl ?_
        refine cv1 hK rfl qc_146 (Nat.le_of_ble_eq_true rfl) ?_
        refine z_misTop (by omega) (fun ht => ?_) (fun ht => ?_)
        · change K _ _ (_ :: _) _
          refine st_if hK rfl rfl (fun c => absurd c (by decide)) (fun _ => ?_)
          refine st_go hK rfl rfl ?_
          refine st_go hK rfl rfl ?_
          refine st_bin hK rfl ?_
          refine st_go hK rfl rfl ?_
          refine st_go hK rfl rfl ?_
          refine st_go hK rfl rfl ?_
          rw [nI_1]
          have e : tmC σ (i + 1) = tmC σ i + 1 := by
            show tmC σ i + (bif tmB σ i then 1 else 0) = _
            unfold tmB
            rw [decide_eq_true (Decidable.not_not.mp c18), decide_eq_true ht]; rfl
          have := ih (i + 1) (by omega)
          rw [e] at this
          first | exact this | (rw [← nI_add] at this; exact this)
        · change K _ _ (_ :: _) _
          refine st_if hK rfl rfl (fun _ => ?_) (fun c => absurd (by decide) c)
          refine st_go hK rfl rfl ?_
          refine st_bin hK rfl ?_
          refine st_go hK rfl rfl ?_
          refine st_go hK rfl rfl ?_
          refine st_go hK rfl rfl ?_
          rw [nI_1]
          have e : tmC σ (i + 1) = tmC σ i + 0 := by
            show tmC σ i + (bif tmB σ i then 1 else 0) = _
            unfold tmB
            first | (rw [decide_eq_false c18]; rfl) | (rw [decide_eq_false ht, Bool.and_false]; rfl)
          have := ih (i + 1) (by omega)
          rw [e] at this
          first | exact this | (rw [← nI_add] at this; exact this)
  refine st_go hK rfl rfl ?_
  refine st_go hK rfl rfl ?_
  refine st_go hK rfl rfl ?_
  refine st_go hK rfl rfl ?_
  exact loop 15 0 (by omega)
/-- one within another: the joints upward -/
theorem z_misWithin {s x a : Nat} {ρ : Nat → Nat} (hW : WFt s (σ 151) (σ 152) (σ 153)) (hρ : Dep s (σ 151) (σ 153) ρ) (hx : nodeN s (σ 151) x) (ha : a < 15) (k1 : Inr (σ 153) ρ x a → Q (some (.int 1)) (cw_B σ lam)) (k0 : ¬ Inr (σ 153) ρ x a → Q (some (.int 0)) (cw_B σ lam)) : cw_Z (d + 1) m_Mo_isWithin [.ref 146, .int (nI x), .int (nI a)] (cw_B σ lam) Q := by
  refine zi (L := [some (.ref 146), some (.int (nI x)), some (.int (nI a)), none]) rfl rfl (fun K hK => ?_)
  have loop : ∀ m y, nodeN s (σ 151) y → ρ y < m → (Inr (σ 153) ρ x a ↔ Inr (σ 153) ρ y a) → K 2 [some (.ref 146), some (.int (nI x)), some (.int (nI a)), some (.int (nI y))] [] (cw_B σ lam) := by
    intro m
    induction m with
    | zero => intro y hy hm; omega
    | succ m ih =>
      intro y hy hm hiff
      have hy15 := hW.lt hy
      rcases Classical.em (σ 153 y = -1) with hp | hp
      · skip
        refine st_go hK rfl rfl ?_
        refine st_go hK rfl rfl ?_
        refine st_if hK rfl rfl (fun c => absurd c (nI_ne1 (by omega))) (fun _ => ?_)
        refine st_go hK rfl rfl ?_
        refine st_go hK rfl rfl ?_
        refine st_ifn hK rfl rfl (nI_eq (a := y) (b := a) (by omega) (by omega)) (fun c9 => ?_) (fun c9 => ?_)
        · refine st_go hK rfl rfl ?_
          refine st_go hK rfl rfl ?_
          refine st_ifn hK rfl rfl (not_congr (nI_eq (a := y) (b := a) (by omega) (by omega))) (fun c => absurd c (fun z => z c9)) (fun _ => ?_)
          refine st_go hK rfl rfl ?_
          refine st_go hK rfl rfl ?_
          refine st_zret hK rfl (Or.inr rfl) ?_
          exact k1 (hiff.mpr (by rw [c9]; exact Inr.rf))
        · refine st_go hK rfl rfl ?_
          refine st_getr hK rfl qf_146_11 ?_
          refine st_go hK rfl rfl ?_
          refine ga (e := y) (v := (-1 : Int32)) hK rfl qa_153 rfl (by omega) rfl hp ?_
          refine st_go hK rfl rfl ?_
          change K _ [some (.ref 146), some (.int (nI x)), some (.int (nI a)), some (.int (-1 : Int32))] _ _
          refine st_go hK rfl rfl ?_
          refine st_go hK rfl rfl ?_
          refine st_go hK rfl rfl ?_
          refine st_if hK rfl rfl (fun _ => ?_) (fun c => absurd (by decide) c)
          refine st_go hK rfl rfl ?_
          refine st_go hK rfl rfl ?_
          refine st_if hK rfl rfl (fun _ => ?_) (fun c => absurd (fun z => nI_ne1 (by omega) z.symm) c)
          refine st_go hK rfl rfl ?_
          refine st_zret hK rfl (Or.inl rfl) ?_
          exact k0 (fun z => c9 ((Inr.top hρ hy hp).mp (hiff.mp z)))
      · obtain ⟨j, j8, j15, j1, j2, j3, j4⟩ := hW.up hy hp
        refine st_go hK rfl rfl ?_
        refine st_go hK rfl rfl ?_
        refine st_if hK rfl rfl (fun c => absurd c (nI_ne1 (by omega))) (fun _ => ?_)
        refine st_go hK rfl rfl ?_
        refine st_go hK rfl rfl ?_
        refine st_ifn hK rfl rfl (nI_eq (a := y) (b := a) (by omega) (by omega)) (fun c9 => ?_) (fun c9 => ?_)
        · refine st_go hK rfl rfl ?_
          refine st_go hK rfl rfl ?_
          refine st_ifn hK rfl rfl (not_congr (nI_eq (a := y) (b := a) (by omega) (by omega))) (fun c => absurd c (fun z => z c9)) (fun _ => ?_)
          refine st_go hK rfl rfl ?_
          refine st_go hK rfl rfl ?_
          refine st_zret hK rfl (Or.inr rfl) ?_
          exact k1 (hiff.mpr (by rw [c9]; exact Inr.rf))
        · refine st_go hK rfl rfl ?_
          refine st_getr hK rfl qf_146_11 ?_
          refine st_go hK rfl rfl ?_
          refine ga (e := y) (v := nI j) hK rfl qa_153 rfl (by omega) rfl j1 ?_
          refine st_go hK rfl rfl ?_
          change K _ [some (.ref 146), some (.int (nI x)), some (.int (nI a)), some (.int (nI j))] _ _
          refine st_go hK rfl rfl ?_
          exact ih j j3 (by have := (hρ y hy).2 j j15 j1; omega) (by rw [hiff, Inr.st hρ hy j15 j1]; exact ⟨fun z => z.elim (fun q => absurd q c9) id, Or.inr⟩)
  refine st_go hK rfl rfl ?_
  refine st_go hK rfl rfl ?_
  exact loop (ρ x + 1) x hx (by omega) Iff.rfl
theorem z_comes {j : Nat} (j8 : 8 ≤ j) (j15 : j < 15) (h0 : σ 150 j ≠ 1) (h1 : ∀ i, 8 ≤ i → i < j → σ 150 i = 1) (kk : Q (some (.int (nI j))) (cw_B (cw_up (cw_up σ 150 j 1) 153 j (-1)) lam)) : cw_Z (d + 1) m_Mo_comes [.ref 146] (cw_B σ lam) Q := by
  refine zi (L := [some (.ref 146), none]) rfl rfl (fun K hK => ?_)
  have loop : ∀ m i, i + m = j → 8 ≤ i → K 3 [some (.ref 146), some (.int (nI i))] [] (cw_B σ lam) := by
    intro m
    induction m with
    | zero =>
      intro i hi i8
      obtain rfl : i = j := by omega
      refine st_go hK rfl rfl ?_
      refine st_getr hK rfl qf_146_8 ?_
      refine st_go hK rfl rfl ?_
      refine ga (e := i) (v := σ 150 i) hK rfl qa_150 rfl (by omega) rfl rfl ?_
      refine st_go hK rfl rfl ?_
      refine st_if hK rfl rfl (fun _ => ?_) (fun c => absurd h0 c)
      refine st_go hK rfl rfl ?_
      refine st_getr hK rfl qf_146_8 ?_
      refine st_go hK rfl rfl ?_
      refine st_go hK rfl rfl ?_
      refine sa (e := i) hK rfl qa_150 rfl (by omega) rfl ?_
      refine st_go hK rfl rfl ?_
      refine st_getr hK rfl qf_146_11 ?_
      refine st_go hK rfl rfl ?_
      refine st_go hK rfl rfl ?_
      refine sa (e := i) hK rfl qa_153 rfl (by omega) rfl ?_
      refine st_go hK rfl rfl ?_
      refine st_ret hK rfl rfl ?_
      exact kk
    | succ m ih =>
      intro i hi i8
      refine st_go hK rfl rfl ?_
      refine st_getr hK rfl qf_146_8 ?_
      refine st_go hK rfl rfl ?_
      refine ga (e := i) (v := σ 150 i) hK rfl qa_150 rfl (by omega) rfl rfl ?_
      refine st_go hK rfl rfl ?_
      refine st_if hK rfl rfl (fun c => absurd c (fun z => z (h1 i i8 (by omega)))) (fun _ => ?_)
      refine st_go hK rfl rfl ?_
      rw [nI_1]
      refine st_go hK rfl rfl ?_
      exact ih (i + 1) (by omega) (by omega)
  refine st_go hK rfl rfl ?_
  refine st_go hK rfl rfl ?_
  exact loop (j - 8) 8 (by omega) (by omega)
theorem z_repl0 {n j : Nat} (hn : n < 15) (hj : j < 15) (h : σ 153 n = -1) (kk : Q none (cw_B (cw_up σ 153 j (-1)) lam)) : cw_Z (d + 1) m_Mo_replaces [.ref 146, .int (nI n), .int (nI j)] (cw_B σ lam) Q := by
  refine zi (L := [some (.ref 146), some (.int (nI n)), some (.int (nI j)), none]) rfl rfl (fun K hK => ?_)
  refine st_go hK rfl rfl ?_
  refine st_getr hK rfl qf_146_11 ?_
  refine st_go hK rfl rfl ?_
  refine ga (e := n) (v := (-1 : Int32)) hK rfl qa_153 rfl (by omega) rfl h ?_
  refine st_go hK rfl rfl ?_
  change K _ [some (.ref 146), some (.int (nI n)), some (.int (nI j)), some (.int (-1 : Int32))] _ _
  refine st_go hK rfl rfl ?_
  refine st_go hK rfl rfl ?_
  refine st_if hK rfl rfl (fun _ => ?_) (fun c => absurd (by decide) c)
  refine st_go hK rfl rfl ?_
  refine st_getr hK rfl qf_146_11 ?_
  refine st_go hK rfl rfl ?_
  refine st_go hK rfl rfl ?_
  refine sa (e := j) hK rfl qa_153 rfl (by omega) rfl ?_
  refine st_ret hK rfl rfl ?_
  exact kk
theorem z_repl1 {n j p : Nat} (hn : n < 15) (hj : j < 15) (hp : p < 15) (h : σ 153 n = nI p) (k1 : σ 151 p = nI n → Q none (cw_B (cw_up (cw_up σ 151 p (nI j)) 153 j (nI p)) lam)) (k0 : ¬ σ 151 p = nI n → Q none (cw_B (cw_up (cw_up σ 152 p (nI j)) 153 j (nI p)) lam)) : cw_Z (d + 1) m_Mo_replaces [.ref 146, .int (nI n), .int (nI j)] (cw_B σ lam) Q := by
  refine zi (L := [some (.ref 146), some (.int (nI n)), some (.int (nI j)), none]) rfl rfl (fun K hK => ?_)
  refine st_go hK rfl rfl ?_
  refine st_getr hK rfl qf_146_11 ?_
  refine st_go hK rfl rfl ?_
  refine ga (e := n) (v := nI p) hK rfl qa_153 rfl (by omega) rfl h ?_
  refine st_go hK rfl rfl ?_
  change K _ [some (.ref 146), some (.int (nI n)), some (.int (nI j)), some (.int (nI p))] _ _
  refine st_go hK rfl rfl ?_
  refine st_go hK rfl rfl ?_
  refine st_if hK rfl rfl (fun c => absurd c (nI_ne1 (by omega))) (fun _ => ?_)
  refine st_go hK rfl rfl ?_
  refine st_getr hK rfl qf_146_9 ?_
  refine st_go hK rfl rfl ?_
  refine ga (e := p) (v := σ 151 p) hK rfl qa_151 rfl (by omega) rfl rfl ?_
  refine st_go hK rfl rfl ?_
  refine st_if hK rfl rfl (fun c19 => ?_) (fun c19 => ?_)
  · refine st_go hK rfl rfl ?_
    refine st_getr hK rfl qf_146_10 ?_
    refine st_go hK rfl rfl ?_
    refine st_go hK rfl rfl ?_
    refine sa (e := p) hK rfl qa_152 rfl (by omega) rfl ?_
    refine st_go hK rfl rfl ?_
    refine st_getr hK rfl qf_146_11 ?_
    refine st_go hK rfl rfl ?_
    refine st_go hK rfl rfl ?_
    refine sa (e := j) hK rfl qa_153 rfl (by omega) rfl ?_
    refine st_ret hK rfl rfl ?_
    first | exact k0 c19 | exact k1 (Decidable.not_not.mp c19)
  · refine st_go hK rfl rfl ?_
    refine st_getr hK rfl qf_146_9 ?_
    refine st_go hK rfl rfl ?_
    refine st_go hK rfl rfl ?_
    refine sa (e := p) hK rfl qa_151 rfl (by omega) rfl ?_
    refine st_go hK rfl rfl ?_
    refine st_go hK rfl rfl ?_
    refine st_getr hK rfl qf_146_11 ?_
    refine st_go hK rfl rfl ?_
    refine st_go hK rfl rfl ?_
    refine sa (e := j) hK rfl qa_153 rfl (by omega) rfl ?_
    refine st_ret hK rfl rfl ?_
    first | exact k0 c19 | exact k1 (Decidable.not_not.mp c19)
theorem z_goes {j : Nat} (hj : j < 15) (kk : Q none (cw_B (cw_up (cw_up (cw_up (cw_up σ 150 j 0) 151 j (-1)) 152 j (-1)) 153 j (-1)) lam)) : cw_Z (d + 1) m_Mo_goes [.ref 146, .int (nI j)] (cw_B σ lam) Q := by
  refine zi (L := [some (.ref 146), some (.int (nI j))]) rfl rfl (fun K hK => ?_)
  refine st_go hK rfl rfl ?_
  refine st_getr hK rfl qf_146_8 ?_
  refine st_go hK rfl rfl ?_
  refine st_go hK rfl rfl ?_
  refine sa (e := j) hK rfl qa_150 rfl (by omega) rfl ?_
  refine st_go hK rfl rfl ?_
  refine st_getr hK rfl qf_146_9 ?_
  refine st_go hK rfl rfl ?_
  refine st_go hK rfl rfl ?_
  refine sa (e := j) hK rfl qa_151 rfl (by omega) rfl ?_
  refine st_go hK rfl rfl ?_
  refine st_getr hK rfl qf_146_10 ?_
  refine st_go hK rfl rfl ?_
  refine st_go hK rfl rfl ?_
  refine sa (e := j) hK rfl qa_152 rfl (by omega) rfl ?_
  refine st_go hK rfl rfl ?_
  refine st_getr hK rfl qf_146_11 ?_
  refine st_go hK rfl rfl ?_
  refine st_go hK rfl rfl ?_
  refine sa (e := j) hK rfl qa_153 rfl (by omega) rfl ?_
  refine st_ret hK rfl rfl ?_
  exact kk
end
