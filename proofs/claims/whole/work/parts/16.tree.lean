/-! TREES -/
def isT (t : Nat) : Prop := t = 1 ∨ t = 37 ∨ ∃ i : Nat, i < 8 ∧ t = 68 + 9 * i
theorem isT.cases {P : Nat → Prop} {t : Nat} (h : isT t) (h1 : P 1) (h2 : P 37) (h3 : ∀ i, i < 8 → P (68 + 9 * i)) : P t := by
  rcases h with rfl | rfl | ⟨i, hi, rfl⟩
  · exact h1
  · exact h2
  · exact h3 i hi
theorem Tree_f0 {t : Nat} (h : isT t) : cw_fR t 6 0 = some (some (t + 1)) := by
  refine h.cases (P := fun t => cw_fR t 6 0 = some (some (t + 1))) rfl rfl (fun i hi => ?_)
  rcases (show i = 0 ∨ i = 1 ∨ i = 2 ∨ i = 3 ∨ i = 4 ∨ i = 5 ∨ i = 6 ∨ i = 7 by omega) with rfl | rfl | rfl | rfl | rfl | rfl | rfl | rfl <;> rfl
theorem Tree_f1 {t : Nat} (h : isT t) : cw_fR t 6 1 = some (some (t + 2)) := by
  refine h.cases (P := fun t => cw_fR t 6 1 = some (some (t + 2))) rfl rfl (fun i hi => ?_)
  rcases (show i = 0 ∨ i = 1 ∨ i = 2 ∨ i = 3 ∨ i = 4 ∨ i = 5 ∨ i = 6 ∨ i = 7 by omega) with rfl | rfl | rfl | rfl | rfl | rfl | rfl | rfl <;> rfl
theorem Tree_f2 {t : Nat} (h : isT t) : cw_fR t 6 2 = some (some (t + 3)) := by
  refine h.cases (P := fun t => cw_fR t 6 2 = some (some (t + 3))) rfl rfl (fun i hi => ?_)
  rcases (show i = 0 ∨ i = 1 ∨ i = 2 ∨ i = 3 ∨ i = 4 ∨ i = 5 ∨ i = 6 ∨ i = 7 by omega) with rfl | rfl | rfl | rfl | rfl | rfl | rfl | rfl <;> rfl
theorem Tree_f3 {t : Nat} (h : isT t) : cw_fR t 6 3 = some (some (t + 4)) := by
  refine h.cases (P := fun t => cw_fR t 6 3 = some (some (t + 4))) rfl rfl (fun i hi => ?_)
  rcases (show i = 0 ∨ i = 1 ∨ i = 2 ∨ i = 3 ∨ i = 4 ∨ i = 5 ∨ i = 6 ∨ i = 7 by omega) with rfl | rfl | rfl | rfl | rfl | rfl | rfl | rfl <;> rfl
theorem Tree_f4 {t : Nat} (h : isT t) : cw_fR t 6 4 = some (some (t + 5)) := by
  refine h.cases (P := fun t => cw_fR t 6 4 = some (some (t + 5))) rfl rfl (fun i hi => ?_)
  rcases (show i = 0 ∨ i = 1 ∨ i = 2 ∨ i = 3 ∨ i = 4 ∨ i = 5 ∨ i = 6 ∨ i = 7 by omega) with rfl | rfl | rfl | rfl | rfl | rfl | rfl | rfl <;> rfl
theorem Tree_f5 {t : Nat} (h : isT t) : cw_fR t 6 5 = some (some (t + 6)) := by
  refine h.cases (P := fun t => cw_fR t 6 5 = some (some (t + 6))) rfl rfl (fun i hi => ?_)
  rcases (show i = 0 ∨ i = 1 ∨ i = 2 ∨ i = 3 ∨ i = 4 ∨ i = 5 ∨ i = 6 ∨ i = 7 by omega) with rfl | rfl | rfl | rfl | rfl | rfl | rfl | rfl <;> rfl
theorem Tree_f6 {t : Nat} (h : isT t) : cw_fR t 6 6 = some (some (t + 7)) := by
  refine h.cases (P := fun t => cw_fR t 6 6 = some (some (t + 7))) rfl rfl (fun i hi => ?_)
  rcases (show i = 0 ∨ i = 1 ∨ i = 2 ∨ i = 3 ∨ i = 4 ∨ i = 5 ∨ i = 6 ∨ i = 7 by omega) with rfl | rfl | rfl | rfl | rfl | rfl | rfl | rfl <;> rfl
theorem Tree_f7 {t : Nat} (h : isT t) : cw_fR t 6 7 = some (some (t + 8)) := by
  refine h.cases (P := fun t => cw_fR t 6 7 = some (some (t + 8))) rfl rfl (fun i hi => ?_)
  rcases (show i = 0 ∨ i = 1 ∨ i = 2 ∨ i = 3 ∨ i = 4 ∨ i = 5 ∨ i = 6 ∨ i = 7 by omega) with rfl | rfl | rfl | rfl | rfl | rfl | rfl | rfl <;> rfl
theorem Tree_f8 {t : Nat} (h : isT t) : cw_fR t 6 8 = some none := by
  refine h.cases (P := fun t => cw_fR t 6 8 = some none) rfl rfl (fun i hi => ?_)
  rcases (show i = 0 ∨ i = 1 ∨ i = 2 ∨ i = 3 ∨ i = 4 ∨ i = 5 ∨ i = 6 ∨ i = 7 by omega) with rfl | rfl | rfl | rfl | rfl | rfl | rfl | rfl <;> rfl
theorem Tree_f9 {t : Nat} (h : isT t) : cw_fR t 6 9 = some none := by
  refine h.cases (P := fun t => cw_fR t 6 9 = some none) rfl rfl (fun i hi => ?_)
  rcases (show i = 0 ∨ i = 1 ∨ i = 2 ∨ i = 3 ∨ i = 4 ∨ i = 5 ∨ i = 6 ∨ i = 7 by omega) with rfl | rfl | rfl | rfl | rfl | rfl | rfl | rfl <;> rfl
theorem Tree_f10 {t : Nat} (h : isT t) : cw_fR t 6 10 = some none := by
  refine h.cases (P := fun t => cw_fR t 6 10 = some none) rfl rfl (fun i hi => ?_)
  rcases (show i = 0 ∨ i = 1 ∨ i = 2 ∨ i = 3 ∨ i = 4 ∨ i = 5 ∨ i = 6 ∨ i = 7 by omega) with rfl | rfl | rfl | rfl | rfl | rfl | rfl | rfl <;> rfl
theorem Tree_f11 {t : Nat} (h : isT t) : cw_fR t 6 11 = some none := by
  refine h.cases (P := fun t => cw_fR t 6 11 = some none) rfl rfl (fun i hi => ?_)
  rcases (show i = 0 ∨ i = 1 ∨ i = 2 ∨ i = 3 ∨ i = 4 ∨ i = 5 ∨ i = 6 ∨ i = 7 by omega) with rfl | rfl | rfl | rfl | rfl | rfl | rfl | rfl <;> rfl
theorem Tree_a0 {t : Nat} (h : isT t) : cw_aR (t + 1) = some (0, 8, 0, 0) := by
  refine h.cases (P := fun t => cw_aR (t + 1) = some (0, 8, 0, 0)) rfl rfl (fun i hi => ?_)
  rcases (show i = 0 ∨ i = 1 ∨ i = 2 ∨ i = 3 ∨ i = 4 ∨ i = 5 ∨ i = 6 ∨ i = 7 by omega) with rfl | rfl | rfl | rfl | rfl | rfl | rfl | rfl <;> rfl
theorem Tree_a1 {t : Nat} (h : isT t) : cw_aR (t + 2) = some (0, 8, 0, 0) := by
  refine h.cases (P := fun t => cw_aR (t + 2) = some (0, 8, 0, 0)) rfl rfl (fun i hi => ?_)
  rcases (show i = 0 ∨ i = 1 ∨ i = 2 ∨ i = 3 ∨ i = 4 ∨ i = 5 ∨ i = 6 ∨ i = 7 by omega) with rfl | rfl | rfl | rfl | rfl | rfl | rfl | rfl <;> rfl
theorem Tree_a2 {t : Nat} (h : isT t) : cw_aR (t + 3) = some (0, 8, 0, 0) := by
  refine h.cases (P := fun t => cw_aR (t + 3) = some (0, 8, 0, 0)) rfl rfl (fun i hi => ?_)
  rcases (show i = 0 ∨ i = 1 ∨ i = 2 ∨ i = 3 ∨ i = 4 ∨ i = 5 ∨ i = 6 ∨ i = 7 by omega) with rfl | rfl | rfl | rfl | rfl | rfl | rfl | rfl <;> rfl
theorem Tree_a3 {t : Nat} (h : isT t) : cw_aR (t + 4) = some (0, 8, 0, 0) := by
  refine h.cases (P := fun t => cw_aR (t + 4) = some (0, 8, 0, 0)) rfl rfl (fun i hi => ?_)
  rcases (show i = 0 ∨ i = 1 ∨ i = 2 ∨ i = 3 ∨ i = 4 ∨ i = 5 ∨ i = 6 ∨ i = 7 by omega) with rfl | rfl | rfl | rfl | rfl | rfl | rfl | rfl <;> rfl
theorem Tree_a4 {t : Nat} (h : isT t) : cw_aR (t + 5) = some (0, 8, 0, 0) := by
  refine h.cases (P := fun t => cw_aR (t + 5) = some (0, 8, 0, 0)) rfl rfl (fun i hi => ?_)
  rcases (show i = 0 ∨ i = 1 ∨ i = 2 ∨ i = 3 ∨ i = 4 ∨ i = 5 ∨ i = 6 ∨ i = 7 by omega) with rfl | rfl | rfl | rfl | rfl | rfl | rfl | rfl <;> rfl
theorem Tree_a5 {t : Nat} (h : isT t) : cw_aR (t + 6) = some (0, 15, 0, 0) := by
  refine h.cases (P := fun t => cw_aR (t + 6) = some (0, 15, 0, 0)) rfl rfl (fun i hi => ?_)
  rcases (show i = 0 ∨ i = 1 ∨ i = 2 ∨ i = 3 ∨ i = 4 ∨ i = 5 ∨ i = 6 ∨ i = 7 by omega) with rfl | rfl | rfl | rfl | rfl | rfl | rfl | rfl <;> rfl
theorem Tree_a6 {t : Nat} (h : isT t) : cw_aR (t + 7) = some (0, 15, 0, 0) := by
  refine h.cases (P := fun t => cw_aR (t + 7) = some (0, 15, 0, 0)) rfl rfl (fun i hi => ?_)
  rcases (show i = 0 ∨ i = 1 ∨ i = 2 ∨ i = 3 ∨ i = 4 ∨ i = 5 ∨ i = 6 ∨ i = 7 by omega) with rfl | rfl | rfl | rfl | rfl | rfl | rfl | rfl <;> rfl
theorem Tree_a7 {t : Nat} (h : isT t) : cw_aR (t + 8) = some (0, 15, 0, 0) := by
  refine h.cases (P := fun t => cw_aR (t + 8) = some (0, 15, 0, 0)) rfl rfl (fun i hi => ?_)
  rcases (show i = 0 ∨ i = 1 ∨ i = 2 ∨ i = 3 ∨ i = 4 ∨ i = 5 ∨ i = 6 ∨ i = 7 by omega) with rfl | rfl | rfl | rfl | rfl | rfl | rfl | rfl <;> rfl
theorem Tree_c {t : Nat} (h : isT t) : cw_cR t = some 6 := by
  refine h.cases (P := fun t => cw_cR t = some 6) rfl rfl (fun i hi => ?_)
  rcases (show i = 0 ∨ i = 1 ∨ i = 2 ∨ i = 3 ∨ i = 4 ∨ i = 5 ∨ i = 6 ∨ i = 7 by omega) with rfl | rfl | rfl | rfl | rfl | rfl | rfl | rfl <;> rfl
theorem cw_in_iff {i : Int32} {n : Nat} : cw_in i n = true ↔ 0 ≤ i.toInt ∧ i.toInt < n := by
  unfold cw_in
  simp only [Bool.and_eq_true, decide_eq_true_eq, Int32.not_lt, Int32.le_iff_toInt_le]
  show (0 : Int32).toInt ≤ i.toInt ∧ i.toInt.toNat < n ↔ _
  have : (0 : Int32).toInt = 0 := by decide
  rw [this]
  omega
theorem cw_in_of {i : Int32} {n : Nat} {m : Int32} (h1 : ¬ i < 0) (h2 : i < m) (hm : m.toInt = n) : cw_in i n = true := by
  rw [cw_in_iff]
  have e1 : (0 : Int32).toInt = 0 := by decide
  rw [Int32.lt_iff_toInt_lt] at h1 h2
  omega
theorem i_nle {x y : Int32} (h : ¬ x ≤ y) : y < x := Int32.not_le.mp h
theorem i_nlt {x y : Int32} (h : ¬ x < y) : y ≤ x := Int32.not_lt.mp h
/-- there is such a sink; such a node; such a joint; it is a top -/
def hSink (σ : cw_V) (t : Nat) (k : Int32) : Prop := 0 ≤ k ∧ k < σ t 8 ∧ k < 8
def hNode (σ : cw_V) (t : Nat) (n : Int32) : Prop := 0 ≤ n ∧ n < 15 ∧ ((n < 8 ∧ n < σ t 8) ∨ (8 ≤ n ∧ σ (t + 6) n.toNatClampNeg ≠ -1))
def hJoint (σ : cw_V) (t : Nat) (n : Int32) : Prop := 8 ≤ n ∧ n < 15 ∧ σ (t + 6) n.toNatClampNeg ≠ -1
def hTop (σ : cw_V) (t : Nat) (n : Int32) : Prop := hNode σ t n ∧ σ (t + 8) n.toNatClampNeg = -1
theorem i_ge0 {n : Int32} (h : 8 ≤ n) : ¬ n < 0 := by
  rw [Int32.lt_iff_toInt_lt]
  rw [Int32.le_iff_toInt_le] at h
  have e1 : (0 : Int32).toInt = 0 := by decide
  have e2 : (8 : Int32).toInt = 8 := by decide
  omega
theorem i_in15 {n : Int32} (h1 : ¬ n < 0) (h2 : n < 15) : cw_in n 15 = true := cw_in_of h1 h2 (by decide)
theorem i_in8 {n : Int32} (h1 : ¬ n < 0) (h2 : n < 8) : cw_in n 8 = true := cw_in_of h1 h2 (by decide)
section
variable {d t : Nat} {σ : cw_V} {lam : Nat → Int64} {Q : cw_Q} {n k : Int32}
theorem z_hasSink (ht : isT t) (k1 : hSink σ t n → Q (some (.int 1)) (cw_B σ lam)) (k0 : ¬ hSink σ t n → Q (some (.int 0)) (cw_B σ lam)) : cw_Z (d + 1) m_Tree_hasSink [.ref t, .int n] (cw_B σ lam) Q := by
  refine zi (L := [some (.ref t), some (.int n)]) rfl rfl (fun K hK => ?_)
  refine st_go hK rfl rfl ?_
  refine st_if hK rfl rfl (fun c1 => ?_) (fun c1 => ?_)
  · refine st_go hK rfl rfl ?_
    refine st_zret hK rfl (Or.inl rfl) ?_
    exact k0 (fun q => (by first | exact absurd q.1 (Int32.not_le.mpr c1) | exact absurd q.2.1 (Int32.not_lt.mpr c9) | exact absurd q.2.2 (Int32.not_lt.mpr c15)))
  · refine st_go hK rfl rfl ?_
    refine st_go hK rfl rfl ?_
    refine st_geti hK rfl (Tree_f8 ht) ?_
    refine st_if hK rfl rfl (fun c9 => ?_) (fun c9 => ?_)
    · refine st_go hK rfl rfl ?_
      refine st_zret hK rfl (Or.inl rfl) ?_
      exact k0 (fun q => (by first | exact absurd q.1 (Int32.not_le.mpr c1) | exact absurd q.2.1 (Int32.not_lt.mpr c9) | exact absurd q.2.2 (Int32.not_lt.mpr c15)))
    · refine st_go hK rfl rfl ?_
      refine st_go hK rfl rfl ?_
      refine st_if hK rfl rfl (fun c15 => ?_) (fun c15 => ?_)
      · refine st_go hK rfl rfl ?_
        refine st_zret hK rfl (Or.inl rfl) ?_
        exact k0 (fun q => (by first | exact absurd q.1 (Int32.not_le.mpr c1) | exact absurd q.2.1 (Int32.not_lt.mpr c9) | exact absurd q.2.2 (Int32.not_lt.mpr c15)))
      · refine st_go hK rfl rfl ?_
        refine st_go hK rfl rfl ?_
        refine st_zret hK rfl (Or.inr rfl) ?_
        exact k1 ⟨i_nlt c1, i_nle c9, i_nle c15⟩
theorem z_hasNode (ht : isT t) (k1 : hNode σ t n → Q (some (.int 1)) (cw_B σ lam)) (k0 : ¬ hNode σ t n → Q (some (.int 0)) (cw_B σ lam)) : cw_Z (d + 1) m_Tree_hasNode [.ref t, .int n] (cw_B σ lam) Q := by
  refine zi (L := [some (.ref t), some (.int n)]) rfl rfl (fun K hK => ?_)
  refine st_go hK rfl rfl ?_
  refine st_if hK rfl rfl (fun c1 => ?_) (fun c1 => ?_)
  · refine st_go hK rfl rfl ?_
    refine st_zret hK rfl (Or.inl rfl) ?_
    exact k0 (fun q => (by first | exact absurd q.1 (Int32.not_le.mpr c1) | exact absurd q.2.1 (Int32.not_lt.mpr c7) | exact q.2.2.elim (fun z => absurd z.2 (Int32.not_lt.mpr c21)) (fun z => absurd z.1 (Int32.not_le.mpr (i_nle c13))) | exact q.2.2.elim (fun z => absurd z.1 (Int32.not_lt.mpr c13)) (fun z => z.2 c34)))
  · refine st_go hK rfl rfl ?_
    refine st_go hK rfl rfl ?_
    refine st_if hK rfl rfl (fun c7 => ?_) (fun c7 => ?_)
    · refine st_go hK rfl rfl ?_
      refine st_zret hK rfl (Or.inl rfl) ?_
      exact k0 (fun q => (by first | exact absurd q.1 (Int32.not_le.mpr c1) | exact absurd q.2.1 (Int32.not_lt.mpr c7) | exact q.2.2.elim (fun z => absurd z.2 (Int32.not_lt.mpr c21)) (fun z => absurd z.1 (Int32.not_le.mpr (i_nle c13))) | exact q.2.2.elim (fun z => absurd z.1 (Int32.not_lt.mpr c13)) (fun z => z.2 c34)))
    · refine st_go hK rfl rfl ?_
      refine st_go hK rfl rfl ?_
      refine st_if hK rfl rfl (fun c13 => ?_) (fun c13 => ?_)
      · refine st_go hK rfl rfl ?_
        refine st_getr hK rfl (Tree_f5 ht) ?_
        refine st_go hK rfl rfl ?_
        refine st_iald hK rfl (Tree_a5 ht) (i_in15 c1 (i_nle c7)) ?_
        refine st_go hK rfl rfl ?_
        refine st_if hK rfl rfl (fun c34 => ?_) (fun c34 => ?_)
        · refine st_go hK rfl rfl ?_
          refine st_zret hK rfl (Or.inl rfl) ?_
          exact k0 (fun q => (by first | exact absurd q.1 (Int32.not_le.mpr c1) | exact absurd q.2.1 (Int32.not_lt.mpr c7) | exact q.2.2.elim (fun z => absurd z.2 (Int32.not_lt.mpr c21)) (fun z => absurd z.1 (Int32.not_le.mpr (i_nle c13))) | exact q.2.2.elim (fun z => absurd z.1 (Int32.not_lt.mpr c13)) (fun z => z.2 c34)))
        · refine st_go hK rfl rfl ?_
          refine st_go hK rfl rfl ?_
          refine st_zret hK rfl (Or.inr rfl) ?_
          first
            | exact k1 ⟨i_nlt c1, i_nle c7, Or.inl ⟨i_nle c13, i_nle c21⟩⟩
            | exact k1 ⟨i_nlt c1, i_nle c7, Or.inr ⟨c13, c34⟩⟩
      · refine st_go hK rfl rfl ?_
        refine st_go hK rfl rfl ?_
        refine st_geti hK rfl (Tree_f8 ht) ?_
        refine st_if hK rfl rfl (fun c21 => ?_) (fun c21 => ?_)
        · refine st_go hK rfl rfl ?_
          refine st_zret hK rfl (Or.inl rfl) ?_
          exact k0 (fun q => (by first | exact absurd q.1 (Int32.not_le.mpr c1) | exact absurd q.2.1 (Int32.not_lt.mpr c7) | exact q.2.2.elim (fun z => absurd z.2 (Int32.not_lt.mpr c21)) (fun z => absurd z.1 (Int32.not_le.mpr (i_nle c13))) | exact q.2.2.elim (fun z => absurd z.1 (Int32.not_lt.mpr c13)) (fun z => z.2 c34)))
        · refine st_go hK rfl rfl ?_
          refine st_go hK rfl rfl ?_
          refine st_go hK rfl rfl ?_
          refine st_zret hK rfl (Or.inr rfl) ?_
          first
            | exact k1 ⟨i_nlt c1, i_nle c7, Or.inl ⟨i_nle c13, i_nle c21⟩⟩
            | exact k1 ⟨i_nlt c1, i_nle c7, Or.inr ⟨c13, c34⟩⟩
theorem z_isJoint (ht : isT t) (k1 : hJoint σ t n → Q (some (.int 1)) (cw_B σ lam)) (k0 : ¬ hJoint σ t n → Q (some (.int 0)) (cw_B σ lam)) : cw_Z (d + 1) m_Tree_isJoint [.ref t, .int n] (cw_B σ lam) Q := by
  refine zi (L := [some (.ref t), some (.int n)]) rfl rfl (fun K hK => ?_)
  refine st_go hK rfl rfl ?_
  refine st_go hK rfl rfl ?_
  refine st_if hK rfl rfl (fun c3 => ?_) (fun c3 => ?_)
  · refine st_go hK rfl rfl ?_
    refine st_zret hK rfl (Or.inl rfl) ?_
    exact k0 (fun q => (by first | exact absurd q.1 (Int32.not_le.mpr c3) | exact absurd q.2.1 (Int32.not_lt.mpr c9) | exact q.2.2 c19))
  · refine st_go hK rfl rfl ?_
    refine st_go hK rfl rfl ?_
    refine st_if hK rfl rfl (fun c9 => ?_) (fun c9 => ?_)
    · refine st_go hK rfl rfl ?_
      refine st_zret hK rfl (Or.inl rfl) ?_
      exact k0 (fun q => (by first | exact absurd q.1 (Int32.not_le.mpr c3) | exact absurd q.2.1 (Int32.not_lt.mpr c9) | exact q.2.2 c19))
    · refine st_go hK rfl rfl ?_
      refine st_getr hK rfl (Tree_f5 ht) ?_
      refine st_go hK rfl rfl ?_
      refine st_iald hK rfl (Tree_a5 ht) (i_in15 (i_ge0 (i_nlt c3)) (i_nle c9)) ?_
      refine st_go hK rfl rfl ?_
      refine st_if hK rfl rfl (fun c19 => ?_) (fun c19 => ?_)
      · refine st_go hK rfl rfl ?_
        refine st_zret hK rfl (Or.inl rfl) ?_
        exact k0 (fun q => (by first | exact absurd q.1 (Int32.not_le.mpr c3) | exact absurd q.2.1 (Int32.not_lt.mpr c9) | exact q.2.2 c19))
      · refine st_go hK rfl rfl ?_
        refine st_go hK rfl rfl ?_
        refine st_zret hK rfl (Or.inr rfl) ?_
        exact k1 ⟨i_nlt c3, i_nle c9, c19⟩
theorem hNode.in {σ : cw_V} {t : Nat} {n : Int32} (h : hNode σ t n) : cw_in n 15 = true := i_in15 (Int32.not_lt.mpr h.1) h.2.1
theorem hSink.in {σ : cw_V} {t : Nat} {n : Int32} (h : hSink σ t n) : cw_in n 8 = true := i_in8 (Int32.not_lt.mpr h.1) h.2.2
theorem hJoint.in {σ : cw_V} {t : Nat} {n : Int32} (h : hJoint σ t n) : cw_in n 15 = true := i_in15 (i_ge0 h.1) h.2.1
theorem z_isTop (ht : isT t) (k1 : hTop σ t n → Q (some (.int 1)) (cw_B σ lam)) (k0 : ¬ hTop σ t n → Q (some (.int 0)) (cw_B σ lam)) : cw_Z (d + 2) m_Tree_isTop [.ref t, .int n] (cw_B σ lam) Q := by
  refine zi (L := [some (.ref t), some (.int n)]) rfl rfl (fun K hK => ?_)
  refine st_go hK rfl rfl ?_
  refine st_go hK rfl rfl ?_
  refine cv1 hK rfl (Tree_c ht) (Nat.le_of_ble_eq_true rfl) ?_
  refine z_hasNode ht (fun hn => ?_) (fun hn => ?_)
  · change K _ _ (_ :: _) _
    refine st_if hK rfl rfl (fun c => absurd c (by decide)) (fun _ => ?_)
    refine st_go hK rfl rfl ?_
    refine st_getr hK rfl (Tree_f7 ht) ?_
    refine st_go hK rfl rfl ?_
    refine st_iald hK rfl (Tree_a7 ht) hn.in ?_
    refine st_go hK rfl rfl ?_
    refine st_if hK rfl rfl (fun c15 => ?_) (fun c15 => ?_)
    · refine st_go hK rfl rfl ?_
      refine st_zret hK rfl (Or.inl rfl) ?_
      exact k0 (fun q => (by first | exact hn q.1 | exact c15 q.2))
    · refine st_go hK rfl rfl ?_
      refine st_go hK rfl rfl ?_
      refine st_zret hK rfl (Or.inr rfl) ?_
      exact k1 ⟨hn, Classical.not_not.mp c15⟩
  · change K _ _ (_ :: _) _
    refine st_if hK rfl rfl (fun _ => ?_) (fun c => absurd (by decide) c)
    refine st_go hK rfl rfl ?_
    refine st_zret hK rfl (Or.inl rfl) ?_
    exact k0 (fun q => (by first | exact hn q.1 | exact c15 q.2))
theorem z_leftOf (ht : isT t) (k1 : hNode σ t n → Q (some (.int (σ (t + 6) n.toNatClampNeg))) (cw_B σ lam)) (k0 : ¬ hNode σ t n → Q (some (.int (-1))) (cw_B σ lam)) : cw_Z (d + 2) m_Tree_leftOf [.ref t, .int n] (cw_B σ lam) Q := by
  refine zi (L := [some (.ref t), some (.int n)]) rfl rfl (fun K hK => ?_)
  refine st_go hK rfl rfl ?_
  refine st_go hK rfl rfl ?_
  refine cv1 hK rfl (Tree_c ht) (Nat.le_of_ble_eq_true rfl) ?_
  refine z_hasNode ht (fun hn => ?_) (fun hn => ?_)
  · change K _ _ (_ :: _) _
    refine st_if hK rfl rfl (fun c => absurd c (by decide)) (fun _ => ?_)
    refine st_go hK rfl rfl ?_
    refine st_getr hK rfl (Tree_f5 ht) ?_
    refine st_go hK rfl rfl ?_
    refine st_iald hK rfl (Tree_a5 ht) hn.in ?_
    refine st_go hK rfl rfl ?_
    refine st_ret hK rfl rfl ?_
    first
      | exact k1 hn
      | exact k0 hn
  · change K _ _ (_ :: _) _
    refine st_if hK rfl rfl (fun _ => ?_) (fun c => absurd (by decide) c)
    refine st_go hK rfl rfl ?_
    refine st_ret hK rfl rfl ?_
    first
      | exact k1 hn
      | exact k0 hn
theorem z_rightOf (ht : isT t) (k1 : hNode σ t n → Q (some (.int (σ (t + 7) n.toNatClampNeg))) (cw_B σ lam)) (k0 : ¬ hNode σ t n → Q (some (.int (-1))) (cw_B σ lam)) : cw_Z (d + 2) m_Tree_rightOf [.ref t, .int n] (cw_B σ lam) Q := by
  refine zi (L := [some (.ref t), some (.int n)]) rfl rfl (fun K hK => ?_)
  refine st_go hK rfl rfl ?_
  refine st_go hK rfl rfl ?_
  refine cv1 hK rfl (Tree_c ht) (Nat.le_of_ble_eq_true rfl) ?_
  refine z_hasNode ht (fun hn => ?_) (fun hn => ?_)
  · change K _ _ (_ :: _) _
    refine st_if hK rfl rfl (fun c => absurd c (by decide)) (fun _ => ?_)
    refine st_go hK rfl rfl ?_
    refine st_getr hK rfl (Tree_f6 ht) ?_
    refine st_go hK rfl rfl ?_
    refine st_iald hK rfl (Tree_a6 ht) hn.in ?_
    refine st_go hK rfl rfl ?_
    refine st_ret hK rfl rfl ?_
    first
      | exact k1 hn
      | exact k0 hn
  · change K _ _ (_ :: _) _
    refine st_if hK rfl rfl (fun _ => ?_) (fun c => absurd (by decide) c)
    refine st_go hK rfl rfl ?_
    refine st_ret hK rfl rfl ?_
    first
      | exact k1 hn
      | exact k0 hn
theorem z_parentOf (ht : isT t) (k1 : hNode σ t n → Q (some (.int (σ (t + 8) n.toNatClampNeg))) (cw_B σ lam)) (k0 : ¬ hNode σ t n → Q (some (.int (-1))) (cw_B σ lam)) : cw_Z (d + 2) m_Tree_parentOf [.ref t, .int n] (cw_B σ lam) Q := by
  refine zi (L := [some (.ref t), some (.int n)]) rfl rfl (fun K hK => ?_)
  refine st_go hK rfl rfl ?_
  refine st_go hK rfl rfl ?_
  refine cv1 hK rfl (Tree_c ht) (Nat.le_of_ble_eq_true rfl) ?_
  refine z_hasNode ht (fun hn => ?_) (fun hn => ?_)
  · change K _ _ (_ :: _) _
    refine st_if hK rfl rfl (fun c => absurd c (by decide)) (fun _ => ?_)
    refine st_go hK rfl rfl ?_
    refine st_getr hK rfl (Tree_f7 ht) ?_
    refine st_go hK rfl rfl ?_
    refine st_iald hK rfl (Tree_a7 ht) hn.in ?_
    refine st_go hK rfl rfl ?_
    refine st_ret hK rfl rfl ?_
    first
      | exact k1 hn
      | exact k0 hn
  · change K _ _ (_ :: _) _
    refine st_if hK rfl rfl (fun _ => ?_) (fun c => absurd (by decide) c)
    refine st_go hK rfl rfl ?_
    refine st_ret hK rfl rfl ?_
    first
      | exact k1 hn
      | exact k0 hn
theorem z_touchedBefore (ht : isT t) (k1 : hSink σ t n → Q (some (.int (σ (t + 5) n.toNatClampNeg))) (cw_B σ lam)) (k0 : ¬ hSink σ t n → Q (some (.int (-1))) (cw_B σ lam)) : cw_Z (d + 2) m_Tree_touchedBefore [.ref t, .int n] (cw_B σ lam) Q := by
  refine zi (L := [some (.ref t), some (.int n)]) rfl rfl (fun K hK => ?_)
  refine st_go hK rfl rfl ?_
  refine st_go hK rfl rfl ?_
  refine cv1 hK rfl (Tree_c ht) (Nat.le_of_ble_eq_true rfl) ?_
  refine z_hasSink ht (fun hn => ?_) (fun hn => ?_)
  · change K _ _ (_ :: _) _
    refine st_if hK rfl rfl (fun c => absurd c (by decide)) (fun _ => ?_)
    refine st_go hK rfl rfl ?_
    refine st_getr hK rfl (Tree_f4 ht) ?_
    refine st_go hK rfl rfl ?_
    refine st_iald hK rfl (Tree_a4 ht) hn.in ?_
    refine st_go hK rfl rfl ?_
    refine st_ret hK rfl rfl ?_
    first
      | exact k1 hn
      | exact k0 hn
  · change K _ _ (_ :: _) _
    refine st_if hK rfl rfl (fun _ => ?_) (fun c => absurd (by decide) c)
    refine st_go hK rfl rfl ?_
    refine st_ret hK rfl rfl ?_
    first
      | exact k1 hn
      | exact k0 hn
theorem lit_le {a i : Nat} (ha : a < 2 ^ 31) (hi : i < 2 ^ 31) : ((OfNat.ofNat a : Int32) ≤ nI i) ↔ a ≤ i := nI_leI (a := a) (b := i) ha hi
theorem lit_lt {a i : Nat} (ha : a < 2 ^ 31) (hi : i < 2 ^ 31) : (nI i < (OfNat.ofNat a : Int32)) ↔ i < a := nI_ltI (a := i) (b := a) hi ha
theorem yle {a i : Nat} (ha : a < 2 ^ 31) (hi : i < 2 ^ 31) (h : (OfNat.ofNat a : Int32) ≤ nI i) : a ≤ i := (lit_le ha hi).mp h
theorem nle {a i : Nat} (ha : a < 2 ^ 31) (hi : i < 2 ^ 31) (h : ¬ ((OfNat.ofNat a : Int32) ≤ nI i)) : i < a := Nat.not_le.mp (fun z => h ((lit_le ha hi).mpr z))
theorem cw_in_nI {i n : Nat} (h : i < n) (hn : n < 2 ^ 31) : cw_in (nI i) n = true := by
  rw [cw_in_iff, nI_toInt (by omega)]
  omega
theorem up_ne {σ : cw_V} {p q k : Nat} {x : Int32} (h : q ≠ p) : cw_up σ p k x q = σ q := if_neg h
theorem up_eq {σ : cw_V} {p k : Nat} {x : Int32} : cw_up σ p k x p = upd (σ p) k x := if_pos rfl
theorem upd_eq {f : Nat → Int32} {k : Nat} {x : Int32} : upd f k x k = x := if_pos rfl
theorem upd_ne {f : Nat → Int32} {k j : Nat} {x : Int32} (h : j ≠ k) : upd f k x j = f j := if_neg h
theorem hJoint_nI {σ : cw_V} {t j : Nat} (h8 : 8 ≤ j) (h15 : j < 15) : hJoint σ t (nI j) ↔ σ (t + 6) j ≠ -1 := by
  unfold hJoint
  rw [nI_clamp (by omega)]
  exact ⟨fun q => q.2.2, fun q => ⟨(lit_le (a := 8) (by decide) (by omega)).mpr h8, (lit_lt (a := 15) (by decide) (by omega)).mpr h15, q⟩⟩
/-- how many joints there are among the first m -/
def jcN (σ : cw_V) (t : Nat) : Nat → Nat
  | 0 => 0
  | m + 1 => jcN σ t m + (if σ (t + 6) (8 + m) ≠ -1 then 1 else 0)
theorem z_jointCount (ht : isT t) (k : Q (some (.int (nI (jcN σ t 7)))) (cw_B σ lam)) : cw_Z (d + 2) m_Tree_jointCount [.ref t] (cw_B σ lam) Q := by
  refine zi (L := [some (.ref t), none, none]) rfl rfl (fun K hK => ?_)
  have loop : ∀ m i, 7 < i + m → i ≤ 7 → K 5 [some (.ref t), some (.int (nI (jcN σ t i))), some (.int (nI (8 + i)))] [] (cw_B σ lam) := by
    intro m
    induction m with
    | zero => intro i hi h7; omega
    | succ m ih =>
      intro i hi h7
      refine st_go hK rfl rfl ?_
      refine st_go hK rfl rfl ?_
      refine st_if hK rfl rfl (fun c8 => ?_) (fun c8 => ?_)
      · refine st_go hK rfl rfl ?_
        refine st_ret hK rfl rfl ?_
        have e : i = 7 := by
          have := yle (a := 15) (i := 8 + i) (by decide) (by omega) c8
          omega
        subst e
        exact k
      · refine st_go hK rfl rfl ?_
        refine st_go hK rfl rfl ?_
        refine cv1 hK rfl (Tree_c ht) (Nat.le_of_ble_eq_true rfl) ?_
        refine z_isJoint ht (fun hn => ?_) (fun hn => ?_)
        · change K _ _ (_ :: _) _
          refine st_if hK rfl rfl (fun c => absurd c (by decide)) (fun _ => ?_)
          refine st_go hK rfl rfl ?_
          refine st_go hK rfl rfl ?_
          refine st_go hK rfl rfl ?_
          have hlt : i + 1 ≤ 7 := by
            have := nle (a := 15) (i := 8 + i) (by decide) (by omega) c8
            omega
          rw [hJoint_nI (by omega) (by omega)] at hn
          first
            | (have e : jcN σ t (i + 1) = jcN σ t i + 1 := by show jcN σ t i + _ = _; rw [if_pos hn]
               have := ih (i + 1) (by omega) hlt
               rw [e, ← nI_1, show 8 + (i + 1) = (8 + i) + 1 by omega, ← nI_1] at this
               exact this)
            | (have e : jcN σ t (i + 1) = jcN σ t i := by show jcN σ t i + _ = _; rw [if_neg hn]; rfl
               have := ih (i + 1) (by omega) hlt
               rw [e, show 8 + (i + 1) = (8 + i) + 1 by omega, ← nI_1] at this
               exact this)
        · change K _ _ (_ :: _) _
          refine st_if hK rfl rfl (fun _ => ?_) (fun c => absurd (by decide) c)
          refine st_go hK rfl rfl ?_
          refine st_go hK rfl rfl ?_
          have hlt : i + 1 ≤ 7 := by
            have := nle (a := 15) (i := 8 + i) (by decide) (by omega) c8
            omega
          rw [hJoint_nI (by omega) (by omega)] at hn
          first
            | (have e : jcN σ t (i + 1) = jcN σ t i + 1 := by show jcN σ t i + _ = _; rw [if_pos hn]
               have := ih (i + 1) (by omega) hlt
               rw [e, ← nI_1, show 8 + (i + 1) = (8 + i) + 1 by omega, ← nI_1] at this
               exact this)
            | (have e : jcN σ t (i + 1) = jcN σ t i := by show jcN σ t i + _ = _; rw [if_neg hn]; rfl
               have := ih (i + 1) (by omega) hlt
               rw [e, show 8 + (i + 1) = (8 + i) + 1 by omega, ← nI_1] at this
               exact this)
  refine st_go hK rfl rfl ?_
  refine st_go hK rfl rfl ?_
  refine st_go hK rfl rfl ?_
  refine st_go hK rfl rfl ?_
  exact loop 8 0 (by decide) (by decide)
/-- the first index from i on, of m, for which P; else -1 -/
def ff (P : Nat → Bool) : Nat → Nat → Int32
  | 0, _ => -1
  | m + 1, i => if P i then nI i else ff P m (i + 1)
theorem ff_pos {P : Nat → Bool} {m i : Nat} (h : P i = true) : ff P (m + 1) i = nI i := if_pos h
theorem ff_neg {P : Nat → Bool} {m i : Nat} (h : ¬ P i = true) : ff P (m + 1) i = ff P m (i + 1) := if_neg h
def atP (σ : cw_V) (t : Nat) (X Y : Int32) (i : Nat) : Bool := decide (σ (t + 1) i = X) && decide (σ (t + 2) i = Y)
theorem z_sinkAt {X Y : Int32} {s : Nat} (ht : isT t) (hs : σ t 8 = nI s) (h8 : s ≤ 8) (k : Q (some (.int (ff (atP σ t X Y) s 0))) (cw_B σ lam)) : cw_Z (d + 1) m_Tree_sinkAt [.ref t, .int X, .int Y] (cw_B σ lam) Q := by
  refine zi (L := [some (.ref t), some (.int X), some (.int Y), none]) rfl rfl (fun K hK => ?_)
  have loop : ∀ m i m1, s < i + m → i ≤ s → i + m1 = s → Q (some (.int (ff (atP σ t X Y) m1 i))) (cw_B σ lam) → K 2 [some (.ref t), some (.int X), some (.int Y), some (.int (nI i))] [] (cw_B σ lam) := by
    intro m
    induction m with
    | zero => intro i m1 hi h7; omega
    | succ m ih =>
      intro i m1 hi h7 h9 kk
      refine st_go hK rfl rfl ?_
      refine st_go hK rfl rfl ?_
      refine st_geti hK rfl (Tree_f8 ht) ?_
      rw [hs]
      refine st_if hK rfl rfl (fun c7 => ?_) (fun c7 => ?_)
      · refine st_go hK rfl rfl ?_
        refine st_ret hK rfl rfl ?_
        have e : m1 = 0 := by
          first
            | (have c7 : nI s ≤ nI i := c7; rw [nI_leI (by omega) (by omega)] at c7; omega)
            | (have := yle (a := 8) (i := i) (by decide) (by omega) c13; omega)
        subst e
        exact kk
      · refine st_go hK rfl rfl ?_
        refine st_go hK rfl rfl ?_
        refine st_if hK rfl rfl (fun c13 => ?_) (fun c13 => ?_)
        · refine st_go hK rfl rfl ?_
          refine st_ret hK rfl rfl ?_
          have e : m1 = 0 := by
            first
              | (have c7 : nI s ≤ nI i := c7; rw [nI_leI (by omega) (by omega)] at c7; omega)
              | (have := yle (a := 8) (i := i) (by decide) (by omega) c13; omega)
          subst e
          exact kk
        · refine st_go hK rfl rfl ?_
          refine st_getr hK rfl (Tree_f0 ht) ?_
          refine st_go hK rfl rfl ?_
          refine st_iald hK rfl (Tree_a0 ht) (cw_in_nI (n := 8) (nle (a := 8) (i := i) (by decide) (by omega) c13) (by decide)) ?_
          refine st_go hK rfl rfl ?_
          refine st_if hK rfl rfl (fun c23 => ?_) (fun c23 => ?_)
          · refine st_go hK rfl rfl ?_
            refine st_go hK rfl rfl ?_
            first | rw [nI_clamp (by omega)] at c33 | skip
            rw [nI_clamp (by omega)] at c23
            have c7 : ¬ nI s ≤ nI i := c7
            rw [nI_leI (by omega) (by omega)] at c7
            obtain ⟨q, rfl⟩ : ∃ q, m1 = q + 1 := ⟨m1 - 1, by omega⟩
            rw [ff_neg (by unfold atP; first | (simp [c23]; done) | (simp [c33]; done))] at kk
            have := ih (i + 1) q (by omega) (by omega) (by omega) kk
            rw [← nI_1] at this
            exact this
          · refine st_go hK rfl rfl ?_
            refine st_getr hK rfl (Tree_f1 ht) ?_
            refine st_go hK rfl rfl ?_
            refine st_iald hK rfl (Tree_a1 ht) (cw_in_nI (n := 8) (nle (a := 8) (i := i) (by decide) (by omega) c13) (by decide)) ?_
            refine st_go hK rfl rfl ?_
            refine st_if hK rfl rfl (fun c33 => ?_) (fun c33 => ?_)
            · refine st_go hK rfl rfl ?_
              refine st_go hK rfl rfl ?_
              first | rw [nI_clamp (by omega)] at c33 | skip
              rw [nI_clamp (by omega)] at c23
              have c7 : ¬ nI s ≤ nI i := c7
              rw [nI_leI (by omega) (by omega)] at c7
              obtain ⟨q, rfl⟩ : ∃ q, m1 = q + 1 := ⟨m1 - 1, by omega⟩
              rw [ff_neg (by unfold atP; first | (simp [c23]; done) | (simp [c33]; done))] at kk
              have := ih (i + 1) q (by omega) (by omega) (by omega) kk
              rw [← nI_1] at this
              exact this
            · refine st_go hK rfl rfl ?_
              refine st_ret hK rfl rfl ?_
              rw [nI_clamp (by omega)] at c23 c33
              have c7 : ¬ nI s ≤ nI i := c7
              rw [nI_leI (by omega) (by omega)] at c7
              obtain ⟨q, rfl⟩ : ∃ q, m1 = q + 1 := ⟨m1 - 1, by omega⟩
              rw [ff_pos (by unfold atP; rw [Classical.not_not.mp c23, Classical.not_not.mp c33]; simp)] at kk
              exact kk
  refine st_go hK rfl rfl ?_
  refine st_go hK rfl rfl ?_
  exact loop (s + 1) 0 s (by omega) (by omega) (by omega) k
def svF (σ : cw_V) (t : Nat) (k : Nat) : Nat → Int32
  | 0 => σ (t + 1) k
  | 1 => σ (t + 2) k
  | 2 => σ (t + 3) k
  | _ => σ (t + 4) k
theorem z_sinkValue {w : Nat} (ht : isT t) (hk : hSink σ t k) (hw : w < 4) (k1 : Q (some (.int (svF σ t k.toNatClampNeg w))) (cw_B σ lam)) : cw_Z (d + 2) m_Tree_sinkValue [.ref t, .int k, .int (nI w)] (cw_B σ lam) Q := by
  refine zi (L := [some (.ref t), some (.int k), some (.int (nI w))]) rfl rfl (fun K hK => ?_)
  refine st_go hK rfl rfl ?_
  refine st_go hK rfl rfl ?_
  refine cv1 hK rfl (Tree_c ht) (Nat.le_of_ble_eq_true rfl) ?_
  refine z_hasSink ht (fun hn => ?_) (fun hn => absurd hk hn)
  change K _ _ (_ :: _) _
  refine st_if hK rfl rfl (fun _ => ?_) (fun c => absurd (by decide) c)
  refine st_go hK rfl rfl ?_
  refine st_go hK rfl rfl ?_
  rcases (show w = 0 ∨ w = 1 ∨ w = 2 ∨ w = 3 by omega) with rfl | rfl | rfl | rfl
  · change K 36 _ _ _
    refine st_go hK rfl rfl ?_
    refine st_getr hK rfl (Tree_f0 ht) ?_
    refine st_go hK rfl rfl ?_
    refine st_iald hK rfl (Tree_a0 ht) hk.in ?_
    refine st_ret hK rfl rfl ?_
    exact k1
  · change K 43 _ _ _
    refine st_go hK rfl rfl ?_
    refine st_getr hK rfl (Tree_f1 ht) ?_
    refine st_go hK rfl rfl ?_
    refine st_iald hK rfl (Tree_a1 ht) hk.in ?_
    refine st_ret hK rfl rfl ?_
    exact k1
  · change K 50 _ _ _
    refine st_go hK rfl rfl ?_
    refine st_getr hK rfl (Tree_f2 ht) ?_
    refine st_go hK rfl rfl ?_
    refine st_iald hK rfl (Tree_a2 ht) hk.in ?_
    refine st_ret hK rfl rfl ?_
    exact k1
  · change K 57 _ _ _
    refine st_go hK rfl rfl ?_
    refine st_getr hK rfl (Tree_f3 ht) ?_
    refine st_go hK rfl rfl ?_
    refine st_iald hK rfl (Tree_a3 ht) hk.in ?_
    refine st_ret hK rfl rfl ?_
    exact k1
def rmF (σ : cw_V) (t i : Nat) : cw_V := fun p => if p = t + 6 ∨ p = t + 7 ∨ p = t + 8 then (fun j => if j < i then -1 else σ p j) else σ p
theorem rmF_0 {σ : cw_V} {t : Nat} : rmF σ t 0 = σ := by
  funext p
  unfold rmF
  split <;> simp
theorem rmF_s {σ : cw_V} {t i : Nat} : cw_up (cw_up (cw_up (rmF σ t i) (t + 6) i (-1)) (t + 7) i (-1)) (t + 8) i (-1) = rmF σ t (i + 1) := by
  have one : ∀ p, (fun j => if j < i + 1 then (-1 : Int32) else σ p j) = upd (fun j => if j < i then -1 else σ p j) i (-1) := by
    intro p
    funext j
    unfold upd
    by_cases h : j = i
    · subst h; simp
    · rw [if_neg h]
      show _ = if j < i then (-1 : Int32) else σ p j
      by_cases h2 : j < i
      · rw [if_pos h2, if_pos (by omega)]
      · rw [if_neg h2, if_neg (by omega)]
  funext p
  by_cases h8 : p = t + 8
  · subst h8
    rw [up_eq, up_ne (by omega), up_ne (by omega)]
    unfold rmF
    rw [if_pos (by omega), if_pos (by omega), one]
  · rw [up_ne h8]
    by_cases h7 : p = t + 7
    · subst h7
      rw [up_eq, up_ne (by omega)]
      unfold rmF
      rw [if_pos (by omega), if_pos (by omega), one]
    · rw [up_ne h7]
      by_cases h6 : p = t + 6
      · subst h6
        rw [up_eq]
        unfold rmF
        rw [if_pos (by omega), if_pos (by omega), one]
      · rw [up_ne h6]
        unfold rmF
        rw [if_neg (by omega), if_neg (by omega)]
theorem z_removeJoints (ht : isT t) (k : Q none (cw_B (rmF σ t 15) lam)) : cw_Z (d + 1) m_Tree_removeJoints [.ref t] (cw_B σ lam) Q := by
  refine zi (L := [some (.ref t), none]) rfl rfl (fun K hK => ?_)
  have loop : ∀ m i, 15 < i + m → i ≤ 15 → K 2 [some (.ref t), some (.int (nI i))] [] (cw_B (rmF σ t i) lam) := by
    intro m
    induction m with
    | zero => intro i hi h7; omega
    | succ m ih =>
      intro i hi h7
      refine st_go hK rfl rfl ?_
      refine st_go hK rfl rfl ?_
      refine st_if hK rfl rfl (fun c5 => ?_) (fun c5 => ?_)
      · refine st_ret hK rfl rfl ?_
        have e : i = 15 := by
          have := yle (a := 15) (i := i) (by decide) (by omega) c5
          omega
        subst e
        exact k
      · have hlt : i < 15 := nle (a := 15) (i := i) (by decide) (by omega) c5
        refine st_go hK rfl rfl ?_
        refine st_getr hK rfl (Tree_f5 ht) ?_
        refine st_go hK rfl rfl ?_
        refine st_go hK rfl rfl ?_
        refine st_iast hK rfl (Tree_a5 ht) (cw_in_nI (n := 15) hlt (by decide)) ?_
        refine st_go hK rfl rfl ?_
        refine st_getr hK rfl (Tree_f6 ht) ?_
        refine st_go hK rfl rfl ?_
        refine st_go hK rfl rfl ?_
        refine st_iast hK rfl (Tree_a6 ht) (cw_in_nI (n := 15) hlt (by decide)) ?_
        refine st_go hK rfl rfl ?_
        refine st_getr hK rfl (Tree_f7 ht) ?_
        refine st_go hK rfl rfl ?_
        refine st_go hK rfl rfl ?_
        refine st_iast hK rfl (Tree_a7 ht) (cw_in_nI (n := 15) hlt (by decide)) ?_
        refine st_go hK rfl rfl ?_
        refine st_go hK rfl rfl ?_
        rw [nI_clamp (by omega), rmF_s]
        have := ih (i + 1) (by omega) (by omega)
        rw [← nI_1] at this
        exact this
  refine st_go hK rfl rfl ?_
  refine st_go hK rfl rfl ?_
  have := loop 16 0 (by decide) (by decide)
  rw [rmF_0] at this
  exact this
/-- j is the joint that is free first -/
def isF (f : Nat → Int32) (j : Nat) : Prop := (8 ≤ j ∧ j < 15) ∧ f j = -1 ∧ ∀ i, 8 ≤ i → i < j → f i ≠ -1
theorem z_freeJoint {j : Nat} (ht : isT t) (hj : isF (σ (t + 6)) j) (k : Q (some (.int (nI j))) (cw_B σ lam)) : cw_Z (d + 2) m_Tree_freeJoint [.ref t] (cw_B σ lam) Q := by
  refine zi (L := [some (.ref t), none]) rfl rfl (fun K hK => ?_)
  have h15 := hj.1.2
  have loop : ∀ m i, 14 < i + m → i ≤ j → 8 ≤ i → K 3 [some (.ref t), some (.int (nI i))] [] (cw_B σ lam) := by
    intro m
    induction m with
    | zero => intro i hi h7 h8; omega
    | succ m ih =>
      intro i hi h7 h8
      refine st_go hK rfl rfl ?_
      refine st_go hK rfl rfl ?_
      refine st_if hK rfl rfl (fun c6 => ?_) (fun c6 => ?_)
      · refine st_go hK rfl rfl ?_
        refine st_ret hK rfl rfl ?_
        have := yle (a := 15) (i := i) (by decide) (by omega) c6
        have := hj.1.2
        omega
      · refine st_go hK rfl rfl ?_
        refine st_go hK rfl rfl ?_
        refine cv1 hK rfl (Tree_c ht) (Nat.le_of_ble_eq_true rfl) ?_
        refine z_isJoint ht (fun hn => ?_) (fun hn => ?_)
        · change K _ _ (_ :: _) _
          refine st_if hK rfl rfl (fun _ => ?_) (fun c => absurd (by decide) c)
          refine st_go hK rfl rfl ?_
          refine st_go hK rfl rfl ?_
          rw [hJoint_nI (by omega) (by omega)] at hn
          have hne : i ≠ j := fun e => hn (e ▸ hj.2.1)
          have := ih (i + 1) (by omega) (by omega) (by omega)
          rw [← nI_1] at this
          exact this
        · change K _ _ (_ :: _) _
          refine st_if hK rfl rfl (fun c => absurd c (by decide)) (fun _ => ?_)
          refine st_go hK rfl rfl ?_
          refine st_ret hK rfl rfl ?_
          rw [hJoint_nI (by omega) (by omega)] at hn
          have e : i = j := by
            rcases Nat.lt_or_ge i j with q | q
            · exact absurd (hj.2.2 i h8 q) hn
            · omega
          subst e
          exact k
  refine st_go hK rfl rfl ?_
  refine st_go hK rfl rfl ?_
  exact loop 7 8 (by decide) hj.1.1 (by decide)
end
