section
variable {d t : Nat} {σ : cw_V} {lam : Nat → Int64} {Q : cw_Q} {n k : Int32}
def cGr (σ : cw_V) (t : Nat) (k n : Int32) : Prop := hTop σ t k ∧ hNode σ t n ∧ ¬ wiF σ t k 15 n
theorem z_canGraft (ht : isT t) (k1 : cGr σ t k n → Q (some (.int 1)) (cw_B σ lam)) (k0 : ¬ cGr σ t k n → Q (some (.int 0)) (cw_B σ lam)) : cw_Z (d + 4) m_Tree_canGraft [.ref t, .int k, .int n] (cw_B σ lam) Q := by
  refine zi (L := [some (.ref t), some (.int k), some (.int n)]) rfl rfl (fun K hK => ?_)
  refine st_go hK rfl rfl ?_
  refine st_go hK rfl rfl ?_
  refine cv1 hK rfl (Tree_c ht) (Nat.le_of_ble_eq_true rfl) ?_
  refine z_isTop ht (fun h1 => ?_) (fun h1 => ?_)
  · change K _ _ (_ :: _) _
    refine st_if hK rfl rfl (fun c => absurd c (by decide)) (fun _ => ?_)
    refine st_go hK rfl rfl ?_
    refine st_go hK rfl rfl ?_
    refine cv1 hK rfl (Tree_c ht) (Nat.le_of_ble_eq_true rfl) ?_
    refine z_hasNode ht (fun h2 => ?_) (fun h2 => ?_)
    · change K _ _ (_ :: _) _
      refine st_if hK rfl rfl (fun c => absurd c (by decide)) (fun _ => ?_)
      refine st_go hK rfl rfl ?_
      refine st_go hK rfl rfl ?_
      refine st_go hK rfl rfl ?_
      refine cv2 hK rfl (Tree_c ht) (Nat.le_of_ble_eq_true rfl) ?_
      refine z_isWithin ht (fun h3 => ?_) (fun h3 => ?_)
      · change K _ _ (_ :: _) _
        refine st_if hK rfl rfl (fun _ => ?_) (fun c => absurd (by decide) c)
        refine st_go hK rfl rfl ?_
        refine st_zret hK rfl (Or.inl rfl) ?_
        exact k0 (fun q => (by first | exact h1 q.1 | exact h2 q.2.1 | exact q.2.2 h3))
      · change K _ _ (_ :: _) _
        refine st_if hK rfl rfl (fun c => absurd c (by decide)) (fun _ => ?_)
        refine st_go hK rfl rfl ?_
        refine st_go hK rfl rfl ?_
        refine st_zret hK rfl (Or.inr rfl) ?_
        exact k1 ⟨h1, h2, h3⟩
    · change K _ _ (_ :: _) _
      refine st_if hK rfl rfl (fun _ => ?_) (fun c => absurd (by decide) c)
      refine st_go hK rfl rfl ?_
      refine st_zret hK rfl (Or.inl rfl) ?_
      exact k0 (fun q => (by first | exact h1 q.1 | exact h2 q.2.1 | exact q.2.2 h3))
  · change K _ _ (_ :: _) _
    refine st_if hK rfl rfl (fun _ => ?_) (fun c => absurd (by decide) c)
    refine st_go hK rfl rfl ?_
    refine st_zret hK rfl (Or.inl rfl) ?_
    exact k0 (fun q => (by first | exact h1 q.1 | exact h2 q.2.1 | exact q.2.2 h3))
def cEx (σ : cw_V) (t : Nat) (a b : Int32) : Prop := pof σ t a ≠ -1 ∧ pof σ t b ≠ -1 ∧ pof σ t a ≠ pof σ t b ∧ ¬ wiF σ t b 15 a ∧ ¬ wiF σ t a 15 b
/-- parentOf, its answer as one word -/
theorem z_parentOf' (ht : isT t) (kk : Q (some (.int (pof σ t n))) (cw_B σ lam)) : cw_Z (d + 2) m_Tree_parentOf [.ref t, .int n] (cw_B σ lam) Q := z_parentOf ht (fun h => by rw [pof_1 h] at kk; exact kk) (fun h => by rw [pof_0 h] at kk; exact kk)
theorem z_canExchange {a b : Int32} (ht : isT t) (k1 : cEx σ t a b → Q (some (.int 1)) (cw_B σ lam)) (k0 : ¬ cEx σ t a b → Q (some (.int 0)) (cw_B σ lam)) : cw_Z (d + 4) m_Tree_canExchange [.ref t, .int a, .int b] (cw_B σ lam) Q := by
  refine zi (L := [some (.ref t), some (.int a), some (.int b), none, none]) rfl rfl (fun K hK => ?_)
  refine st_go hK rfl rfl ?_
  refine st_go hK rfl rfl ?_
  refine cv1 hK rfl (Tree_c ht) (Nat.le_of_ble_eq_true rfl) ?_
  refine z_parentOf' ht ?_
  change K _ _ (_ :: _) _
  refine st_go hK rfl rfl ?_
  refine st_go hK rfl rfl ?_
  refine st_go hK rfl rfl ?_
  refine cv1 hK rfl (Tree_c ht) (Nat.le_of_ble_eq_true rfl) ?_
  refine z_parentOf' ht ?_
  change K _ _ (_ :: _) _
  refine st_go hK rfl rfl ?_
  refine st_go hK rfl rfl ?_
  refine st_go hK rfl rfl ?_
  refine st_if hK rfl rfl (fun c15 => ?_) (fun c15 => ?_)
  · refine st_go hK rfl rfl ?_
    refine st_zret hK rfl (Or.inl rfl) ?_
    exact k0 (fun q => (by first | exact q.1 c15 | exact q.2.1 c21 | exact q.2.2.1 c27 | exact q.2.2.2.1 h4 | exact q.2.2.2.2 h5))
  · refine st_go hK rfl rfl ?_
    refine st_go hK rfl rfl ?_
    refine st_if hK rfl rfl (fun c21 => ?_) (fun c21 => ?_)
    · refine st_go hK rfl rfl ?_
      refine st_zret hK rfl (Or.inl rfl) ?_
      exact k0 (fun q => (by first | exact q.1 c15 | exact q.2.1 c21 | exact q.2.2.1 c27 | exact q.2.2.2.1 h4 | exact q.2.2.2.2 h5))
    · refine st_go hK rfl rfl ?_
      refine st_go hK rfl rfl ?_
      refine st_if hK rfl rfl (fun c27 => ?_) (fun c27 => ?_)
      · refine st_go hK rfl rfl ?_
        refine st_zret hK rfl (Or.inl rfl) ?_
        exact k0 (fun q => (by first | exact q.1 c15 | exact q.2.1 c21 | exact q.2.2.1 c27 | exact q.2.2.2.1 h4 | exact q.2.2.2.2 h5))
      · refine st_go hK rfl rfl ?_
        refine st_go hK rfl rfl ?_
        refine st_go hK rfl rfl ?_
        refine cv2 hK rfl (Tree_c ht) (Nat.le_of_ble_eq_true rfl) ?_
        refine z_isWithin ht (fun h4 => ?_) (fun h4 => ?_)
        · change K _ _ (_ :: _) _
          refine st_if hK rfl rfl (fun _ => ?_) (fun c => absurd (by decide) c)
          refine st_go hK rfl rfl ?_
          refine st_zret hK rfl (Or.inl rfl) ?_
          exact k0 (fun q => (by first | exact q.1 c15 | exact q.2.1 c21 | exact q.2.2.1 c27 | exact q.2.2.2.1 h4 | exact q.2.2.2.2 h5))
        · change K _ _ (_ :: _) _
          refine st_if hK rfl rfl (fun c => absurd c (by decide)) (fun _ => ?_)
          refine st_go hK rfl rfl ?_
          refine st_go hK rfl rfl ?_
          refine st_go hK rfl rfl ?_
          refine cv2 hK rfl (Tree_c ht) (Nat.le_of_ble_eq_true rfl) ?_
          refine z_isWithin ht (fun h5 => ?_) (fun h5 => ?_)
          · change K _ _ (_ :: _) _
            refine st_if hK rfl rfl (fun _ => ?_) (fun c => absurd (by decide) c)
            refine st_go hK rfl rfl ?_
            refine st_zret hK rfl (Or.inl rfl) ?_
            exact k0 (fun q => (by first | exact q.1 c15 | exact q.2.1 c21 | exact q.2.2.1 c27 | exact q.2.2.2.1 h4 | exact q.2.2.2.2 h5))
          · change K _ _ (_ :: _) _
            refine st_if hK rfl rfl (fun c => absurd c (by decide)) (fun _ => ?_)
            refine st_go hK rfl rfl ?_
            refine st_go hK rfl rfl ?_
            refine st_zret hK rfl (Or.inr rfl) ?_
            exact k1 ⟨c15, c21, c27, h4, h5⟩
theorem hNode_rc {σ : cw_V} {t : Nat} {a b m n : Int32} (hm : hNode σ t m) : hNode (rcF σ t a b m) t n ↔ hNode σ t n := by
  have hm1 : m ≠ -1 := fun e => by
    have := hm.1
    rw [e] at this
    exact absurd this (by decide)
  by_cases hj : hJoint σ t a
  · by_cases h2 : σ (t + 6) a.toNatClampNeg = b
    · rw [rcF_l hj h2]
      unfold hNode
      rw [up_ne (by omega), up_ne (by omega), up_eq, up_ne (by omega)]
      by_cases e : n.toNatClampNeg = a.toNatClampNeg
      · rw [e, upd_eq]
        have h3 := hj.2.2
        exact ⟨fun q => ⟨q.1, q.2.1, q.2.2.elim Or.inl (fun z => Or.inr ⟨z.1, h3⟩)⟩, fun q => ⟨q.1, q.2.1, q.2.2.elim Or.inl (fun z => Or.inr ⟨z.1, hm1⟩)⟩⟩
      · rw [upd_ne e]
    · rw [rcF_r hj h2]
      unfold hNode
      rw [up_ne (by omega), up_ne (by omega), up_ne (by omega), up_ne (by omega)]
  · rw [rcF_0 hj]
    exact hNode_up8
theorem z_exchange {a b : Int32} (ht : isT t) (ha : hNode σ t a) (hb : hNode σ t b) (kk : Q none (cw_B (rcF (rcF σ t (pof σ t a) a b) t (pof σ t b) b a) lam)) : cw_Z (d + 3) m_Tree_exchange [.ref t, .int a, .int b] (cw_B σ lam) Q := by
  refine zi (L := [some (.ref t), some (.int a), some (.int b), none, none]) rfl rfl (fun K hK => ?_)
  refine st_go hK rfl rfl ?_
  refine st_go hK rfl rfl ?_
  refine cv1 hK rfl (Tree_c ht) (Nat.le_of_ble_eq_true rfl) ?_
  refine z_parentOf' ht ?_
  change K _ _ (_ :: _) _
  refine st_go hK rfl rfl ?_
  refine st_go hK rfl rfl ?_
  refine st_go hK rfl rfl ?_
  refine cv1 hK rfl (Tree_c ht) (Nat.le_of_ble_eq_true rfl) ?_
  refine z_parentOf' ht ?_
  change K _ _ (_ :: _) _
  refine st_go hK rfl rfl ?_
  refine st_go hK rfl rfl ?_
  refine st_go hK rfl rfl ?_
  refine st_go hK rfl rfl ?_
  refine st_go hK rfl rfl ?_
  refine cv3 hK rfl (Tree_c ht) (Nat.le_of_ble_eq_true rfl) ?_
  refine z_replaceChild ht hb ?_
  change K _ _ _ _
  refine st_go hK rfl rfl ?_
  refine st_go hK rfl rfl ?_
  refine st_go hK rfl rfl ?_
  refine st_go hK rfl rfl ?_
  refine cv3 hK rfl (Tree_c ht) (Nat.le_of_ble_eq_true rfl) ?_
  refine z_replaceChild ht ((hNode_rc hb).mpr ha) ?_
  change K _ _ _ _
  refine st_ret hK rfl rfl ?_
  exact kk
theorem hNode_pos {σ : cw_V} {t : Nat} {m : Int32} (hm : hNode σ t m) : m ≠ -1 := fun e => by
  have := hm.1
  rw [e] at this
  exact absurd this (by decide)
theorem ajF_6 {σ : cw_V} {t j : Nat} {a b : Int32} : ajF σ t j a b (t + 6) = upd (σ (t + 6)) j a := by
  unfold ajF
  rw [up_ne (by omega), up_ne (by omega), up_ne (by omega), up_ne (by omega), up_eq]
theorem ajF_7 {σ : cw_V} {t j : Nat} {a b : Int32} : ajF σ t j a b (t + 7) = upd (σ (t + 7)) j b := by
  unfold ajF
  rw [up_ne (by omega), up_ne (by omega), up_ne (by omega), up_eq, up_ne (by omega)]
theorem ajF_8 {σ : cw_V} {t j : Nat} {a b : Int32} : ajF σ t j a b (t + 8) = upd (upd (upd (σ (t + 8)) j (-1)) a.toNatClampNeg (nI j)) b.toNatClampNeg (nI j) := by
  unfold ajF
  rw [up_eq, up_eq, up_eq, up_ne (by omega), up_ne (by omega)]
theorem ajF_ne {σ : cw_V} {t j p : Nat} {a b : Int32} (h : p ≠ t + 6 ∧ p ≠ t + 7 ∧ p ≠ t + 8) : ajF σ t j a b p = σ p := by
  unfold ajF
  rw [up_ne h.2.2, up_ne h.2.2, up_ne h.2.2, up_ne h.2.1, up_ne h.1]
theorem hNode_aj {σ : cw_V} {t j : Nat} {a b : Int32} (hj : isF (σ (t + 6)) j) (ha : hNode σ t a) : hNode (ajF σ t j a b) t (nI j) := by
  have h1 := hj.1
  refine ⟨nI_pos' (by omega), (lit_lt (a := 15) (by decide) (by omega)).mpr h1.2, Or.inr ⟨(lit_le (a := 8) (by decide) (by omega)).mpr h1.1, ?_⟩⟩
  rw [ajF_6, nI_clamp (by omega), upd_eq]
  exact hNode_pos ha
def grF (σ : cw_V) (t j : Nat) (k n : Int32) : cw_V := rcF (ajF σ t j n k) t (pof σ t n) n (nI j)
theorem z_graft {j : Nat} (ht : isT t) (hj : isF (σ (t + 6)) j) (hk : hNode σ t k) (hn : hNode σ t n) (kk : Q (some (.int (nI j))) (cw_B (grF σ t j k n) lam)) : cw_Z (d + 4) m_Tree_graft [.ref t, .int k, .int n] (cw_B σ lam) Q := by
  refine zi (L := [some (.ref t), some (.int k), some (.int n), none, none]) rfl rfl (fun K hK => ?_)
  refine st_go hK rfl rfl ?_
  refine st_go hK rfl rfl ?_
  refine cv1 hK rfl (Tree_c ht) (Nat.le_of_ble_eq_true rfl) ?_
  refine z_parentOf' ht ?_
  change K _ _ (_ :: _) _
  refine st_go hK rfl rfl ?_
  refine st_go hK rfl rfl ?_
  refine st_go hK rfl rfl ?_
  refine st_go hK rfl rfl ?_
  refine cv2 hK rfl (Tree_c ht) (Nat.le_of_ble_eq_true rfl) ?_
  refine z_addJoint ht hj hn hk ?_
  change K _ _ (_ :: _) _
  refine st_go hK rfl rfl ?_
  refine st_go hK rfl rfl ?_
  refine st_go hK rfl rfl ?_
  refine st_go hK rfl rfl ?_
  refine st_go hK rfl rfl ?_
  refine cv3 hK rfl (Tree_c ht) (Nat.le_of_ble_eq_true rfl) ?_
  refine z_replaceChild ht (hNode_aj hj hn) ?_
  change K _ _ _ _
  refine st_go hK rfl rfl ?_
  refine st_ret hK rfl rfl ?_
  exact kk
def otF (σ : cw_V) (t : Nat) (n : Int32) : Int32 := bif decide (σ (t + 6) (σ (t + 8) n.toNatClampNeg).toNatClampNeg = n) then σ (t + 7) (σ (t + 8) n.toNatClampNeg).toNatClampNeg else σ (t + 6) (σ (t + 8) n.toNatClampNeg).toNatClampNeg
def ctF (σ : cw_V) (t : Nat) (n : Int32) : cw_V := cw_up (cw_up (cw_up (cw_up (rcF σ t (σ (t + 8) (σ (t + 8) n.toNatClampNeg).toNatClampNeg) (σ (t + 8) n.toNatClampNeg) (otF σ t n)) (t + 6) (σ (t + 8) n.toNatClampNeg).toNatClampNeg (-1)) (t + 7) (σ (t + 8) n.toNatClampNeg).toNatClampNeg (-1)) (t + 8) (σ (t + 8) n.toNatClampNeg).toNatClampNeg (-1)) (t + 8) n.toNatClampNeg (-1)
theorem z_cut (ht : isT t) (hn : hNode σ t n) (hp : hJoint σ t (σ (t + 8) n.toNatClampNeg)) (ho : hNode σ t (otF σ t n)) (kk : Q (some (.int (σ (t + 8) n.toNatClampNeg))) (cw_B (ctF σ t n) lam)) : cw_Z (d + 3) m_Tree_cut [.ref t, .int n] (cw_B σ lam) Q := by
  refine zi (L := [some (.ref t), some (.int n), none, none]) rfl rfl (fun K hK => ?_)
  refine st_go hK rfl rfl ?_
  refine st_go hK rfl rfl ?_
  refine cv1 hK rfl (Tree_c ht) (Nat.le_of_ble_eq_true rfl) ?_
  refine z_parentOf' ht ?_
  rw [pof_1 hn]
  change K _ _ (_ :: _) _
  refine st_go hK rfl rfl ?_
  refine st_go hK rfl rfl ?_
  refine st_go hK rfl rfl ?_
  refine cv1 hK rfl (Tree_c ht) (Nat.le_of_ble_eq_true rfl) ?_
  refine z_isJoint ht (fun _ => ?_) (fun z => absurd hp z)
  change K _ _ (_ :: _) _
  refine st_if hK rfl rfl (fun _ => ?_) (fun c => absurd (by decide) c)
  refine st_go hK rfl rfl ?_
  refine st_getr hK rfl (Tree_f5 ht) ?_
  refine st_go hK rfl rfl ?_
  refine st_iald hK rfl (Tree_a5 ht) hp.in ?_
  refine st_go hK rfl rfl ?_
  refine st_if hK rfl rfl (fun c23 => ?_) (fun c23 => ?_)
  · refine st_go hK rfl rfl ?_
    refine st_getr hK rfl (Tree_f5 ht) ?_
    refine st_go hK rfl rfl ?_
    refine st_iald hK rfl (Tree_a5 ht) hp.in ?_
    refine st_go hK rfl rfl ?_
    refine st_go hK rfl rfl ?_
    refine st_go hK rfl rfl ?_
    refine st_getr hK rfl (Tree_f7 ht) ?_
    refine st_go hK rfl rfl ?_
    refine st_iald hK rfl (Tree_a7 ht) hp.in ?_
    refine st_go hK rfl rfl ?_
    refine st_go hK rfl rfl ?_
    refine cv3 hK rfl (Tree_c ht) (Nat.le_of_ble_eq_true rfl) ?_
    first
      | (have eo : otF σ t n = σ (t + 6) (σ (t + 8) n.toNatClampNeg).toNatClampNeg := by unfold otF; rw [decide_eq_false c23]; rfl
         rw [← eo])
      | (have eo : otF σ t n = σ (t + 7) (σ (t + 8) n.toNatClampNeg).toNatClampNeg := by unfold otF; rw [decide_eq_true (Classical.not_not.mp c23)]; rfl
         rw [← eo])
    refine z_replaceChild ht ho ?_
    change K _ _ _ _
    refine st_go hK rfl rfl ?_
    refine st_getr hK rfl (Tree_f5 ht) ?_
    refine st_go hK rfl rfl ?_
    refine st_go hK rfl rfl ?_
    refine st_iast hK rfl (Tree_a5 ht) hp.in ?_
    refine st_go hK rfl rfl ?_
    refine st_getr hK rfl (Tree_f6 ht) ?_
    refine st_go hK rfl rfl ?_
    refine st_go hK rfl rfl ?_
    refine st_iast hK rfl (Tree_a6 ht) hp.in ?_
    refine st_go hK rfl rfl ?_
    refine st_getr hK rfl (Tree_f7 ht) ?_
    refine st_go hK rfl rfl ?_
    refine st_go hK rfl rfl ?_
    refine st_iast hK rfl (Tree_a7 ht) hp.in ?_
    refine st_go hK rfl rfl ?_
    refine st_getr hK rfl (Tree_f7 ht) ?_
    refine st_go hK rfl rfl ?_
    refine st_go hK rfl rfl ?_
    refine st_iast hK rfl (Tree_a7 ht) hn.in ?_
    refine st_go hK rfl rfl ?_
    refine st_ret hK rfl rfl ?_
    exact kk
  · refine st_go hK rfl rfl ?_
    refine st_getr hK rfl (Tree_f6 ht) ?_
    refine st_go hK rfl rfl ?_
    refine st_iald hK rfl (Tree_a6 ht) hp.in ?_
    refine st_go hK rfl rfl ?_
    refine st_go hK rfl rfl ?_
    refine st_go hK rfl rfl ?_
    refine st_go hK rfl rfl ?_
    refine st_getr hK rfl (Tree_f7 ht) ?_
    refine st_go hK rfl rfl ?_
    refine st_iald hK rfl (Tree_a7 ht) hp.in ?_
    refine st_go hK rfl rfl ?_
    refine st_go hK rfl rfl ?_
    refine cv3 hK rfl (Tree_c ht) (Nat.le_of_ble_eq_true rfl) ?_
    first
      | (have eo : otF σ t n = σ (t + 6) (σ (t + 8) n.toNatClampNeg).toNatClampNeg := by unfold otF; rw [decide_eq_false c23]; rfl
         rw [← eo])
      | (have eo : otF σ t n = σ (t + 7) (σ (t + 8) n.toNatClampNeg).toNatClampNeg := by unfold otF; rw [decide_eq_true (Classical.not_not.mp c23)]; rfl
         rw [← eo])
    refine z_replaceChild ht ho ?_
    change K _ _ _ _
    refine st_go hK rfl rfl ?_
    refine st_getr hK rfl (Tree_f5 ht) ?_
    refine st_go hK rfl rfl ?_
    refine st_go hK rfl rfl ?_
    refine st_iast hK rfl (Tree_a5 ht) hp.in ?_
    refine st_go hK rfl rfl ?_
    refine st_getr hK rfl (Tree_f6 ht) ?_
    refine st_go hK rfl rfl ?_
    refine st_go hK rfl rfl ?_
    refine st_iast hK rfl (Tree_a6 ht) hp.in ?_
    refine st_go hK rfl rfl ?_
    refine st_getr hK rfl (Tree_f7 ht) ?_
    refine st_go hK rfl rfl ?_
    refine st_go hK rfl rfl ?_
    refine st_iast hK rfl (Tree_a7 ht) hp.in ?_
    refine st_go hK rfl rfl ?_
    refine st_getr hK rfl (Tree_f7 ht) ?_
    refine st_go hK rfl rfl ?_
    refine st_go hK rfl rfl ?_
    refine st_iast hK rfl (Tree_a7 ht) hn.in ?_
    refine st_go hK rfl rfl ?_
    refine st_ret hK rfl rfl ?_
    exact kk
/-- a row copied from its start -/
def cpS (σ : cw_V) (p q n : Nat) : cw_V := fun r => if r = q then va_cpy (σ p) (σ q) 0 0 n else σ r
theorem cps_ne {σ : cw_V} {p q n r : Nat} (h : r ≠ q) : cpS σ p q n r = σ r := if_neg h
theorem cps_eq {σ : cw_V} {p q n j : Nat} (h : j < n) : cpS σ p q n q j = σ p j := by
  unfold cpS
  rw [if_pos rfl]
  show (if 0 ≤ j ∧ j < 0 + n then σ p (0 + (j - 0)) else σ q j) = σ p j
  rw [if_pos ⟨Nat.zero_le _, by omega⟩, Nat.sub_zero, Nat.zero_add]
theorem st_cpy {M : Nat} {h0 : cw_H} {K : cw_KT} {pc nx : Nat} {L : cw_L} {S : List Value} {p q n0 n1 b0 b1 s0 s1 : Nat} {n : Int32} (hK : cw_Kc d M h0 Q K) (hf : cw_tb M pc = some (s_copy nx)) (hp0 : cw_aR p = some (0, n0, b0, s0)) (hq0 : cw_aR q = some (0, n1, b1, s1)) (hc : cw_ct S ≤ 8) (h3 : ¬ n < 0) (h4 : n.toNatClampNeg ≤ n0) (h5 : n.toNatClampNeg ≤ n1)
    (kk : K nx L S (cw_B (cpS σ p q n.toNatClampNeg) lam)) : K pc L (.int n :: .int 0 :: .ref q :: .int 0 :: .ref p :: S) (cw_B σ lam) :=
  st_copy hK hf hp0 hq0 hc (by decide) (by decide) h3 (by rw [show (0 : Int32).toNatClampNeg = 0 by decide, Nat.zero_add]; exact h4) (by rw [show (0 : Int32).toNatClampNeg = 0 by decide, Nat.zero_add]; exact h5) kk
/-- the tree at t is that at u, as far as it is used; nothing else has changed -/
def cpy (σ σ' : cw_V) (t u : Nat) : Prop := (∀ p, (p < t ∨ t + 8 < p) → σ' p = σ p) ∧ (∀ i, 1 ≤ i → i ≤ 5 → ∀ j, j < 8 → σ' (t + i) j = σ (u + i) j) ∧ (∀ i, 6 ≤ i → i ≤ 8 → ∀ j, j < 15 → σ' (t + i) j = σ (u + i) j) ∧ ∀ k, 8 ≤ k → k ≤ 11 → σ' t k = σ u k
theorem z_copyFrom {u : Nat} (ht : isT t) (hu : isT u) (hne : t + 8 < u ∨ u + 8 < t) (kk : ∀ σ', cpy σ σ' t u → Q none (cw_B σ' lam)) : cw_Z (d + 1) m_Tree_copyFrom [.ref t, .ref u] (cw_B σ lam) Q := by
  refine zi (L := [some (.ref t), some (.ref u)]) rfl rfl (fun K hK => ?_)
  refine st_go hK rfl rfl ?_
  refine st_getr hK rfl (Tree_f0 hu) ?_
  refine st_go hK rfl rfl ?_
  refine st_go hK rfl rfl ?_
  refine st_getr hK rfl (Tree_f0 ht) ?_
  refine st_go hK rfl rfl ?_
  refine st_go hK rfl rfl ?_
  refine st_cpy hK rfl (Tree_a0 hu) (Tree_a0 ht) (Nat.le_of_ble_eq_true rfl) (by decide) (by decide) (by decide) ?_
  refine st_go hK rfl rfl ?_
  refine st_getr hK rfl (Tree_f1 hu) ?_
  refine st_go hK rfl rfl ?_
  refine st_go hK rfl rfl ?_
  refine st_getr hK rfl (Tree_f1 ht) ?_
  refine st_go hK rfl rfl ?_
  refine st_go hK rfl rfl ?_
  refine st_cpy hK rfl (Tree_a1 hu) (Tree_a1 ht) (Nat.le_of_ble_eq_true rfl) (by decide) (by decide) (by decide) ?_
  refine st_go hK rfl rfl ?_
  refine st_getr hK rfl (Tree_f2 hu) ?_
  refine st_go hK rfl rfl ?_
  refine st_go hK rfl rfl ?_
  refine st_getr hK rfl (Tree_f2 ht) ?_
  refine st_go hK rfl rfl ?_
  refine st_go hK rfl rfl ?_
  refine st_cpy hK rfl (Tree_a2 hu) (Tree_a2 ht) (Nat.le_of_ble_eq_true rfl) (by decide) (by decide) (by decide) ?_
  refine st_go hK rfl rfl ?_
  refine st_getr hK rfl (Tree_f3 hu) ?_
  refine st_go hK rfl rfl ?_
  refine st_go hK rfl rfl ?_
  refine st_getr hK rfl (Tree_f3 ht) ?_
  refine st_go hK rfl rfl ?_
  refine st_go hK rfl rfl ?_
  refine st_cpy hK rfl (Tree_a3 hu) (Tree_a3 ht) (Nat.le_of_ble_eq_true rfl) (by decide) (by decide) (by decide) ?_
  refine st_go hK rfl rfl ?_
  refine st_getr hK rfl (Tree_f4 hu) ?_
  refine st_go hK rfl rfl ?_
  refine st_go hK rfl rfl ?_
  refine st_getr hK rfl (Tree_f4 ht) ?_
  refine st_go hK rfl rfl ?_
  refine st_go hK rfl rfl ?_
  refine st_cpy hK rfl (Tree_a4 hu) (Tree_a4 ht) (Nat.le_of_ble_eq_true rfl) (by decide) (by decide) (by decide) ?_
  refine st_go hK rfl rfl ?_
  refine st_getr hK rfl (Tree_f5 hu) ?_
  refine st_go hK rfl rfl ?_
  refine st_go hK rfl rfl ?_
  refine st_getr hK rfl (Tree_f5 ht) ?_
  refine st_go hK rfl rfl ?_
  refine st_go hK rfl rfl ?_
  refine st_cpy hK rfl (Tree_a5 hu) (Tree_a5 ht) (Nat.le_of_ble_eq_true rfl) (by decide) (by decide) (by decide) ?_
  refine st_go hK rfl rfl ?_
  refine st_getr hK rfl (Tree_f6 hu) ?_
  refine st_go hK rfl rfl ?_
  refine st_go hK rfl rfl ?_
  refine st_getr hK rfl (Tree_f6 ht) ?_
  refine st_go hK rfl rfl ?_
  refine st_go hK rfl rfl ?_
  refine st_cpy hK rfl (Tree_a6 hu) (Tree_a6 ht) (Nat.le_of_ble_eq_true rfl) (by decide) (by decide) (by decide) ?_
  refine st_go hK rfl rfl ?_
  refine st_getr hK rfl (Tree_f7 hu) ?_
  refine st_go hK rfl rfl ?_
  refine st_go hK rfl rfl ?_
  refine st_getr hK rfl (Tree_f7 ht) ?_
  refine st_go hK rfl rfl ?_
  refine st_go hK rfl rfl ?_
  refine st_cpy hK rfl (Tree_a7 hu) (Tree_a7 ht) (Nat.le_of_ble_eq_true rfl) (by decide) (by decide) (by decide) ?_
  refine st_go hK rfl rfl ?_
  refine st_go hK rfl rfl ?_
  refine st_geti hK rfl (Tree_f8 hu) ?_
  refine st_put hK rfl (Tree_f8 ht) rfl ?_
  refine st_go hK rfl rfl ?_
  refine st_go hK rfl rfl ?_
  refine st_geti hK rfl (Tree_f9 hu) ?_
  refine st_put hK rfl (Tree_f9 ht) rfl ?_
  refine st_go hK rfl rfl ?_
  refine st_go hK rfl rfl ?_
  refine st_geti hK rfl (Tree_f10 hu) ?_
  refine st_put hK rfl (Tree_f10 ht) rfl ?_
  refine st_go hK rfl rfl ?_
  refine st_go hK rfl rfl ?_
  refine st_geti hK rfl (Tree_f11 hu) ?_
  refine st_put hK rfl (Tree_f11 ht) rfl ?_
  refine st_ret hK rfl rfl ?_
  refine kk _ ?_
  rw [show (8 : Int32).toNatClampNeg = 8 by decide, show (15 : Int32).toNatClampNeg = 15 by decide]
  refine ⟨fun p hp => ?_, fun i h1 h5 j hj => ?_, fun i h6 h8 j hj => ?_, fun k h8 h11 => ?_⟩
  · rw [up_ne (by omega), up_ne (by omega), up_ne (by omega), up_ne (by omega), cps_ne (by omega), cps_ne (by omega), cps_ne (by omega), cps_ne (by omega), cps_ne (by omega), cps_ne (by omega), cps_ne (by omega), cps_ne (by omega)]
  · rw [up_ne (by omega), up_ne (by omega), up_ne (by omega), up_ne (by omega), cps_ne (by omega), cps_ne (by omega), cps_ne (by omega)]
    rcases (show i = 1 ∨ i = 2 ∨ i = 3 ∨ i = 4 ∨ i = 5 by omega) with rfl | rfl | rfl | rfl | rfl
    · rw [cps_ne (by omega), cps_ne (by omega), cps_ne (by omega), cps_ne (by omega), cps_eq hj]
    · rw [cps_ne (by omega), cps_ne (by omega), cps_ne (by omega), cps_eq hj, cps_ne (by omega)]
    · rw [cps_ne (by omega), cps_ne (by omega), cps_eq hj, cps_ne (by omega), cps_ne (by omega)]
    · rw [cps_ne (by omega), cps_eq hj, cps_ne (by omega), cps_ne (by omega), cps_ne (by omega)]
    · rw [cps_eq hj, cps_ne (by omega), cps_ne (by omega), cps_ne (by omega), cps_ne (by omega)]
  · rw [up_ne (by omega), up_ne (by omega), up_ne (by omega), up_ne (by omega)]
    rcases (show i = 6 ∨ i = 7 ∨ i = 8 by omega) with rfl | rfl | rfl
    · rw [cps_ne (by omega), cps_ne (by omega), cps_eq hj, cps_ne (by omega), cps_ne (by omega), cps_ne (by omega), cps_ne (by omega), cps_ne (by omega)]
    · rw [cps_ne (by omega), cps_eq hj, cps_ne (by omega), cps_ne (by omega), cps_ne (by omega), cps_ne (by omega), cps_ne (by omega), cps_ne (by omega)]
    · rw [cps_eq hj, cps_ne (by omega), cps_ne (by omega), cps_ne (by omega), cps_ne (by omega), cps_ne (by omega), cps_ne (by omega), cps_ne (by omega)]
  · have hut : u ≠ t := by omega
    have eu : ∀ τ : cw_V, τ = cpS (cpS (cpS (cpS (cpS (cpS (cpS (cpS σ (u + 1) (t + 1) 8) (u + 2) (t + 2) 8) (u + 3) (t + 3) 8) (u + 4) (t + 4) 8) (u + 5) (t + 5) 8) (u + 6) (t + 6) 15) (u + 7) (t + 7) 15) (u + 8) (t + 8) 15 → τ u = σ u := by
      intro τ hτ
      rw [hτ, cps_ne (by omega), cps_ne (by omega), cps_ne (by omega), cps_ne (by omega), cps_ne (by omega), cps_ne (by omega), cps_ne (by omega), cps_ne (by omega)]
    have eu' := eu _ rfl
    rcases (show k = 8 ∨ k = 9 ∨ k = 10 ∨ k = 11 by omega) with rfl | rfl | rfl | rfl
    · rw [up_eq, up_eq, up_eq, up_eq, upd_ne (by decide), upd_ne (by decide), upd_ne (by decide), upd_eq]
      exact congrFun eu' 8
    · rw [up_eq, up_eq, up_eq, up_eq, upd_ne (by decide), upd_ne (by decide), upd_eq, up_ne hut]
      exact congrFun eu' 9
    · rw [up_eq, up_eq, up_eq, up_eq, upd_ne (by decide), upd_eq, up_ne hut, up_ne hut]
      exact congrFun eu' 10
    · rw [up_eq, up_eq, up_eq, up_eq, upd_eq, up_ne hut, up_ne hut, up_ne hut]
      exact congrFun eu' 11
end
