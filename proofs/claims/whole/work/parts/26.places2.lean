section
variable {d : Nat} {σ : cw_V} {lam : Nat → Int64} {Q : cw_Q}
theorem isP_ne {p : Nat} (h : isP p) : p ≠ 30 ∧ p ≠ 31 ∧ p ≠ 32 ∧ p ≠ 33 ∧ p ≠ 34 ∧ p ≠ 1 := h.all (X := fun p => p ≠ 30 ∧ p ≠ 31 ∧ p ≠ 32 ∧ p ≠ 33 ∧ p ≠ 34 ∧ p ≠ 1) (fun q _ h => by omega)
def suF (σ : cw_V) : Int32 := (σ 1 10 + σ 1 11) * 65536
def svF' (σ : cw_V) : Int32 := (σ 1 10 - σ 1 11) * 65536
def u0F (σ : cw_V) (p : Nat) : Int32 := movF (suF σ) (σ p 0) (σ p 1)
def v0F (σ : cw_V) (p : Nat) : Int32 := movF (svF' σ) (σ p 2) (σ p 3)
def trF (σ : cw_V) (p : Nat) : Int32 := dsF (suF σ) (svF' σ) (u0F σ p) (v0F σ p)
def stS (σ : cw_V) (n : Int32) : cw_V := cw_up (cw_up (cw_up (cw_up (cw_up σ 31 (nd n) (u0F σ (pp 10 n))) 32 (nd n) (v0F σ (pp 10 n))) 33 (nd n) (-1)) 30 6 (trF σ (pp 10 n))) 34 (nd n) (trF σ (pp 10 n))
theorem z_setTop {n : Int32} (hn : hNode σ 1 n) (kk : Q none (cw_B (stS σ n) (vp_updL lam (nd n) (dlF (trF σ (pp 10 n)) (σ (pp 10 n)))))) : cw_Z (d + 3) m_Places_setTop [.ref 30, .ref 1, .ref 10, .int n] (cw_B σ lam) Q := by
  have hp := isP_of hW10 hn.in
  obtain ⟨h30, h31, h32, h33, h34, h1⟩ := isP_ne hp
  refine zi (L := [some (.ref 30), some (.ref 1), some (.ref 10), some (.int n), none, none, none]) rfl rfl (fun K hK => ?_)
  refine st_go hK rfl rfl ?_
  refine st_go hK rfl rfl ?_
  refine cv1 hK rfl (Tree_c hT1) (Nat.le_of_ble_eq_true rfl) ?_
  refine z_hasNode hT1 (fun _ => ?_) (fun z => absurd hn z)
  change K _ _ (_ :: _) _
  refine st_if hK rfl rfl (fun _ => ?_) (fun c => absurd (by decide) c)
  refine st_go hK rfl rfl ?_
  refine st_go hK rfl rfl ?_
  refine cv1 hK rfl (Wires_c hW10) (Nat.le_of_ble_eq_true rfl) ?_
  refine z_part hW10 hn.in ?_
  change K _ _ (_ :: _) _
  refine st_go hK rfl rfl ?_
  refine st_go hK rfl rfl ?_
  refine st_geti hK rfl (Tree_f10 hT1) ?_
  refine st_go hK rfl rfl ?_
  refine st_geti hK rfl (Tree_f11 hT1) ?_
  refine st_bin hK rfl ?_
  refine st_go hK rfl rfl ?_
  refine st_bin hK rfl ?_
  refine st_go hK rfl rfl ?_
  refine st_go hK rfl rfl ?_
  refine st_geti hK rfl (Tree_f10 hT1) ?_
  refine st_go hK rfl rfl ?_
  refine st_geti hK rfl (Tree_f11 hT1) ?_
  refine st_bin hK rfl ?_
  refine st_go hK rfl rfl ?_
  refine st_bin hK rfl ?_
  refine st_go hK rfl rfl ?_
  refine st_go hK rfl rfl ?_
  refine st_getr hK rfl rfl ?_
  refine st_go hK rfl rfl ?_
  refine st_go hK rfl rfl ?_
  refine st_go hK rfl rfl ?_
  refine st_geti hK rfl (Part_f0 hp) ?_
  refine st_go hK rfl rfl ?_
  refine st_geti hK rfl (Part_f1 hp) ?_
  refine cs3 hK rfl (Nat.le_of_ble_eq_true rfl) ?_
  refine z_movedInto ?_
  change K _ _ (_ :: _) _
  refine st_iast hK rfl rfl hn.in ?_
  refine st_go hK rfl rfl ?_
  refine st_getr hK rfl rfl ?_
  refine st_go hK rfl rfl ?_
  refine st_go hK rfl rfl ?_
  refine st_go hK rfl rfl ?_
  refine st_geti hK rfl (Part_f2 hp) ?_
  refine st_go hK rfl rfl ?_
  refine st_geti hK rfl (Part_f3 hp) ?_
  refine cs3 hK rfl (Nat.le_of_ble_eq_true rfl) ?_
  refine z_movedInto ?_
  change K _ _ (_ :: _) _
  refine st_iast hK rfl rfl hn.in ?_
  refine st_go hK rfl rfl ?_
  refine st_getr hK rfl rfl ?_
  refine st_go hK rfl rfl ?_
  refine st_go hK rfl rfl ?_
  refine st_iast hK rfl rfl hn.in ?_
  refine st_go hK rfl rfl ?_
  refine st_go hK rfl rfl ?_
  refine st_go hK rfl rfl ?_
  refine st_go hK rfl rfl ?_
  refine st_getr hK rfl rfl ?_
  refine st_go hK rfl rfl ?_
  refine st_iald hK rfl rfl hn.in ?_
  refine st_go hK rfl rfl ?_
  refine st_getr hK rfl rfl ?_
  refine st_go hK rfl rfl ?_
  refine st_iald hK rfl rfl hn.in ?_
  refine cs4 hK rfl (Nat.le_of_ble_eq_true rfl) ?_
  refine z_distance ?_
  change K _ _ (_ :: _) _
  refine st_put hK rfl rfl rfl ?_
  refine st_go hK rfl rfl ?_
  refine st_getr hK rfl rfl ?_
  refine st_go hK rfl rfl ?_
  refine st_go hK rfl rfl ?_
  refine st_geti hK rfl rfl ?_
  refine st_iast hK rfl rfl hn.in ?_
  refine st_go hK rfl rfl ?_
  refine st_getr hK rfl rfl ?_
  refine st_go hK rfl rfl ?_
  refine st_go hK rfl rfl ?_
  refine st_geti hK rfl rfl ?_
  refine st_go hK rfl rfl ?_
  refine cs2 hK rfl (Nat.le_of_ble_eq_true rfl) ?_
  refine z_delayOf hp ?_
  change K _ _ (_ :: _) _
  refine st_last hK rfl hn.in ?_
  refine st_ret hK rfl rfl ?_
  have e : ∀ (τ1 τ2 : cw_V) (x y : Int64), τ1 = τ2 → x = y → Q none (cw_B τ2 (vp_updL lam (nd n) y)) → Q none (cw_B τ1 (vp_updL lam (nd n) x)) := fun _ _ _ _ e1 e2 z => by rw [e1, e2]; exact z
  refine e _ _ _ _ ?_ ?_ kk
  · unfold stS trF u0F v0F suF svF'
    have epp : (10 : Nat) + 5 + n.toNatClampNeg = pp 10 n := rfl
    simp only [epp, up_ne (show pp 10 n ≠ 31 from h31), up_ne (show pp 10 n ≠ 32 from h32), up_ne (show pp 10 n ≠ 33 from h33), up_ne (show pp 10 n ≠ 34 from h34), up_ne (show pp 10 n ≠ 30 from h30), up_ne (show (31 : Nat) ≠ 32 by decide), up_ne (show (31 : Nat) ≠ 33 by decide), up_ne (show (32 : Nat) ≠ 33 by decide), up_eq, upd_eq]
  · unfold trF u0F v0F suF svF'
    have epp : (10 : Nat) + 5 + n.toNatClampNeg = pp 10 n := rfl
    simp only [epp, up_ne (show pp 10 n ≠ 31 from h31), up_ne (show pp 10 n ≠ 32 from h32), up_ne (show pp 10 n ≠ 33 from h33), up_ne (show pp 10 n ≠ 34 from h34), up_ne (show pp 10 n ≠ 30 from h30), up_ne (show (30 : Nat) ≠ 34 by decide), up_ne (show (31 : Nat) ≠ 32 by decide), up_ne (show (31 : Nat) ≠ 33 by decide), up_ne (show (32 : Nat) ≠ 33 by decide), up_eq, upd_eq]
/-- a child's places: U, V, loop -/
def cuF (σ : cw_V) (p : Nat) (j : Int32) : Int32 := movF (σ 31 (nd j)) (σ p 0) (σ p 1)
def cvF (σ : cw_V) (p : Nat) (j : Int32) : Int32 := movF (σ 32 (nd j)) (σ p 2) (σ p 3)
def clF (σ : cw_V) (p : Nat) (j : Int32) : Int32 := σ p 6 - dsF (cuF σ p j) (cvF σ p j) (σ 31 (nd j)) (σ 32 (nd j))
def scS (σ τ : cw_V) (p : Nat) (n j : Int32) : Prop := (∀ q, q ≠ 30 → q ≠ 31 → q ≠ 32 → q ≠ 33 → q ≠ 34 → τ q = σ q) ∧ τ 31 = upd (σ 31) (nd n) (cuF σ p j) ∧ τ 32 = upd (σ 32) (nd n) (cvF σ p j) ∧ τ 33 = upd (σ 33) (nd n) (clF σ p j) ∧ τ 34 = upd (σ 34) (nd n) (σ 34 (nd j) + σ p 6) ∧
  τ 30 7 = σ 30 7 + clF σ p j ∧ τ 30 8 = (if 0 < clF σ p j then σ 30 8 + 1 else σ 30 8) ∧ (∀ k, k ≠ 7 → k ≠ 8 → τ 30 k = σ 30 k)
theorem z_setChild {p : Nat} {n j : Int32} (hp : isP p) (hnin : cw_in n 15 = true) (hjin : cw_in j 15 = true) (hne : nd j ≠ nd n) (kk : ∀ τ, scS σ τ p n j → Q none (cw_B τ (vp_updL lam (nd n) (lam (nd j) + dlF (σ p 6) (σ p))))) : cw_Z (d + 3) m_Places_setChild [.ref 30, .ref p, .int n, .int j] (cw_B σ lam) Q := by
  obtain ⟨h30, h31, h32, h33, h34, h1⟩ := isP_ne hp
  have n1 : ¬ n < 0 := fun h => by have := cw_in_iff.mp hnin; rw [Int32.lt_iff_toInt_lt] at h; have e : (0 : Int32).toInt = 0 := by decide
                                   omega
  have n2 : n < 15 := by have := cw_in_iff.mp hnin; rw [Int32.lt_iff_toInt_lt]; have e : (15 : Int32).toInt = 15 := by decide
                         omega
  have j1 : ¬ j < 0 := fun h => by have := cw_in_iff.mp hjin; rw [Int32.lt_iff_toInt_lt] at h; have e : (0 : Int32).toInt = 0 := by decide
                                   omega
  have j2 : j < 15 := by have := cw_in_iff.mp hjin; rw [Int32.lt_iff_toInt_lt]; have e : (15 : Int32).toInt = 15 := by decide
                         omega
  have hjn : j.toNatClampNeg ≠ n.toNatClampNeg := hne
  have n87 : (8 : Nat) ≠ 7 := by decide
  have n78 : (7 : Nat) ≠ 8 := by decide
  have n3031 : (30 : Nat) ≠ 31 := by decide
  have n3032 : (30 : Nat) ≠ 32 := by decide
  have n3033 : (30 : Nat) ≠ 33 := by decide
  have n3034 : (30 : Nat) ≠ 34 := by decide
  have n3130 : (31 : Nat) ≠ 30 := by decide
  have n3132 : (31 : Nat) ≠ 32 := by decide
  have n3133 : (31 : Nat) ≠ 33 := by decide
  have n3134 : (31 : Nat) ≠ 34 := by decide
  have n3230 : (32 : Nat) ≠ 30 := by decide
  have n3231 : (32 : Nat) ≠ 31 := by decide
  have n3233 : (32 : Nat) ≠ 33 := by decide
  have n3234 : (32 : Nat) ≠ 34 := by decide
  have n3330 : (33 : Nat) ≠ 30 := by decide
  have n3331 : (33 : Nat) ≠ 31 := by decide
  have n3332 : (33 : Nat) ≠ 32 := by decide
  have n3334 : (33 : Nat) ≠ 34 := by decide
  have n3430 : (34 : Nat) ≠ 30 := by decide
  have n3431 : (34 : Nat) ≠ 31 := by decide
  have n3432 : (34 : Nat) ≠ 32 := by decide
  have n3433 : (34 : Nat) ≠ 33 := by decide
  refine zi (L := [some (.ref 30), some (.ref p), some (.int n), some (.int j)]) rfl rfl (fun K hK => ?_)
  refine st_go hK rfl rfl ?_
  refine st_if hK rfl rfl (fun c1 => ?_) (fun c1 => ?_)
  · refine st_ret hK rfl rfl ?_
    exfalso
    first | exact n1 c1 | exact absurd n2 (Int32.not_lt.mpr c7) | exact j1 c11 | exact c17 j2
  · refine st_go hK rfl rfl ?_
    refine st_go hK rfl rfl ?_
    refine st_if hK rfl rfl (fun c7 => ?_) (fun c7 => ?_)
    · refine st_ret hK rfl rfl ?_
      exfalso
      first | exact n1 c1 | exact absurd n2 (Int32.not_lt.mpr c7) | exact j1 c11 | exact c17 j2
    · refine st_go hK rfl rfl ?_
      refine st_if hK rfl rfl (fun c11 => ?_) (fun c11 => ?_)
      · refine st_ret hK rfl rfl ?_
        exfalso
        first | exact n1 c1 | exact absurd n2 (Int32.not_lt.mpr c7) | exact j1 c11 | exact c17 j2
      · refine st_go hK rfl rfl ?_
        refine st_go hK rfl rfl ?_
        refine st_if hK rfl rfl (fun c17 => ?_) (fun c17 => ?_)
        · refine st_go hK rfl rfl ?_
          refine st_getr hK rfl rfl ?_
          refine st_go hK rfl rfl ?_
          refine st_go hK rfl rfl ?_
          refine st_getr hK rfl rfl ?_
          refine st_go hK rfl rfl ?_
          refine st_iald hK rfl rfl hjin ?_
          refine st_go hK rfl rfl ?_
          refine st_geti hK rfl (Part_f0 hp) ?_
          refine st_go hK rfl rfl ?_
          refine st_geti hK rfl (Part_f1 hp) ?_
          refine cs3 hK rfl (Nat.le_of_ble_eq_true rfl) ?_
          refine z_movedInto ?_
          change K _ _ (_ :: _) _
          refine st_iast hK rfl rfl hnin ?_
          refine st_go hK rfl rfl ?_
          refine st_getr hK rfl rfl ?_
          refine st_go hK rfl rfl ?_
          refine st_go hK rfl rfl ?_
          refine st_getr hK rfl rfl ?_
          refine st_go hK rfl rfl ?_
          refine st_iald hK rfl rfl hjin ?_
          refine st_go hK rfl rfl ?_
          refine st_geti hK rfl (Part_f2 hp) ?_
          refine st_go hK rfl rfl ?_
          refine st_geti hK rfl (Part_f3 hp) ?_
          refine cs3 hK rfl (Nat.le_of_ble_eq_true rfl) ?_
          refine z_movedInto ?_
          change K _ _ (_ :: _) _
          refine st_iast hK rfl rfl hnin ?_
          refine st_go hK rfl rfl ?_
          refine st_getr hK rfl rfl ?_
          refine st_go hK rfl rfl ?_
          refine st_go hK rfl rfl ?_
          refine st_geti hK rfl (Part_f6 hp) ?_
          refine st_go hK rfl rfl ?_
          refine st_getr hK rfl rfl ?_
          refine st_go hK rfl rfl ?_
          refine st_iald hK rfl rfl hnin ?_
          refine st_go hK rfl rfl ?_
          refine st_getr hK rfl rfl ?_
          refine st_go hK rfl rfl ?_
          refine st_iald hK rfl rfl hnin ?_
          refine st_go hK rfl rfl ?_
          refine st_getr hK rfl rfl ?_
          refine st_go hK rfl rfl ?_
          refine st_iald hK rfl rfl hjin ?_
          refine st_go hK rfl rfl ?_
          refine st_getr hK rfl rfl ?_
          refine st_go hK rfl rfl ?_
          refine st_iald hK rfl rfl hjin ?_
          refine cs4 hK rfl (Nat.le_of_ble_eq_true rfl) ?_
          refine z_distance ?_
          change K _ _ (_ :: _) _
          refine st_bin hK rfl ?_
          refine st_iast hK rfl rfl hnin ?_
          refine st_go hK rfl rfl ?_
          refine st_go hK rfl rfl ?_
          refine st_geti hK rfl rfl ?_
          refine st_go hK rfl rfl ?_
          refine st_getr hK rfl rfl ?_
          refine st_go hK rfl rfl ?_
          refine st_iald hK rfl rfl hnin ?_
          refine st_bin hK rfl ?_
          refine st_put hK rfl rfl rfl ?_
          refine st_go hK rfl rfl ?_
          refine st_getr hK rfl rfl ?_
          refine st_go hK rfl rfl ?_
          refine st_iald hK rfl rfl hnin ?_
          refine st_if hK rfl rfl (fun c126 => ?_) (fun c126 => ?_)
          · refine st_go hK rfl rfl ?_
            refine st_getr hK rfl rfl ?_
            refine st_go hK rfl rfl ?_
            refine st_go hK rfl rfl ?_
            refine st_getr hK rfl rfl ?_
            refine st_go hK rfl rfl ?_
            refine st_iald hK rfl rfl hjin ?_
            refine st_go hK rfl rfl ?_
            refine st_geti hK rfl (Part_f6 hp) ?_
            refine st_bin hK rfl ?_
            refine st_iast hK rfl rfl hnin ?_
            refine st_go hK rfl rfl ?_
            refine st_getr hK rfl rfl ?_
            refine st_go hK rfl rfl ?_
            refine st_go hK rfl rfl ?_
            refine st_getr hK rfl rfl ?_
            refine st_go hK rfl rfl ?_
            refine st_lald hK rfl rfl hjin ?_
            refine st_go hK rfl rfl ?_
            refine st_geti hK rfl (Part_f6 hp) ?_
            refine st_go hK rfl rfl ?_
            refine cs2 hK rfl (Nat.le_of_ble_eq_true rfl) ?_
            refine z_delayOf hp ?_
            change K _ _ (_ :: _) _
            refine st_lbin hK rfl ?_
            refine st_last hK rfl hnin ?_
            refine st_ret hK rfl rfl ?_
            have e : ∀ (τ1 : cw_V) (x : Int64), scS σ τ1 p n j → x = lam (nd j) + dlF (σ p 6) (σ p) → Q none (cw_B τ1 (vp_updL lam (nd n) x)) := fun _ _ e1 e2 => by rw [e2]; exact kk _ e1
            simp only [up_ne h31, up_ne h32, up_ne h33, up_ne h34, up_ne h30, up_ne n3132, up_ne n3133, up_ne n3134, up_ne n3130, up_ne n3231, up_ne n3233, up_ne n3234, up_ne n3230, up_ne n3331, up_ne n3332, up_ne n3334, up_ne n3330, up_ne n3430, up_ne n3431, up_ne n3432, up_ne n3433, up_ne n3031, up_ne n3032, up_ne n3033, up_ne n3034, up_eq, upd_eq, upd_ne hjn, upd_ne n87, upd_ne n78] at c126 ⊢
            refine e _ _ ⟨fun q q0 q1 q2 q3 q4 => ?_, ?_, ?_, ?_, ?_, ?_, ?_, fun k k7 k8 => ?_⟩ ?_
            · simp only [up_ne q0, up_ne q1, up_ne q2, up_ne q3, up_ne q4]
            · simp only [up_ne n3132, up_ne n3133, up_ne n3134, up_ne n3130, up_eq]; rfl
            · simp only [up_ne n3231, up_ne n3233, up_ne n3234, up_ne n3230, up_eq]; rfl
            · simp only [up_ne n3331, up_ne n3332, up_ne n3334, up_ne n3330, up_eq]; rfl
            · simp only [up_ne n3430, up_ne n3431, up_ne n3432, up_ne n3433, up_eq]
            · simp only [up_ne n3031, up_ne n3032, up_ne n3033, up_ne n3034, up_eq, upd_eq, upd_ne n78]; rfl
            · simp only [up_ne n3031, up_ne n3032, up_ne n3033, up_ne n3034, up_eq, upd_eq, upd_ne n87]
              first
                | (rw [if_pos (show 0 < clF σ p j from i_nle c126)])
                | (rw [if_neg (show ¬ 0 < clF σ p j from Int32.not_lt.mpr c126)])
            · simp only [up_ne n3031, up_ne n3032, up_ne n3033, up_ne n3034, up_eq, upd_ne k7, upd_ne k8]
            · rfl
          · refine st_go hK rfl rfl ?_
            refine st_go hK rfl rfl ?_
            refine st_geti hK rfl rfl ?_
            refine st_go hK rfl rfl ?_
            refine st_bin hK rfl ?_
            refine st_put hK rfl rfl rfl ?_
            refine st_go hK rfl rfl ?_
            refine st_getr hK rfl rfl ?_
            refine st_go hK rfl rfl ?_
            refine st_go hK rfl rfl ?_
            refine st_getr hK rfl rfl ?_
            refine st_go hK rfl rfl ?_
            refine st_iald hK rfl rfl hjin ?_
            refine st_go hK rfl rfl ?_
            refine st_geti hK rfl (Part_f6 hp) ?_
            refine st_bin hK rfl ?_
            refine st_iast hK rfl rfl hnin ?_
            refine st_go hK rfl rfl ?_
            refine st_getr hK rfl rfl ?_
            refine st_go hK rfl rfl ?_
            refine st_go hK rfl rfl ?_
            refine st_getr hK rfl rfl ?_
            refine st_go hK rfl rfl ?_
            refine st_lald hK rfl rfl hjin ?_
            refine st_go hK rfl rfl ?_
            refine st_geti hK rfl (Part_f6 hp) ?_
            refine st_go hK rfl rfl ?_
            refine cs2 hK rfl (Nat.le_of_ble_eq_true rfl) ?_
            refine z_delayOf hp ?_
            change K _ _ (_ :: _) _
            refine st_lbin hK rfl ?_
            refine st_last hK rfl hnin ?_
            refine st_ret hK rfl rfl ?_
            have e : ∀ (τ1 : cw_V) (x : Int64), scS σ τ1 p n j → x = lam (nd j) + dlF (σ p 6) (σ p) → Q none (cw_B τ1 (vp_updL lam (nd n) x)) := fun _ _ e1 e2 => by rw [e2]; exact kk _ e1
            simp only [up_ne h31, up_ne h32, up_ne h33, up_ne h34, up_ne h30, up_ne n3132, up_ne n3133, up_ne n3134, up_ne n3130, up_ne n3231, up_ne n3233, up_ne n3234, up_ne n3230, up_ne n3331, up_ne n3332, up_ne n3334, up_ne n3330, up_ne n3430, up_ne n3431, up_ne n3432, up_ne n3433, up_ne n3031, up_ne n3032, up_ne n3033, up_ne n3034, up_eq, upd_eq, upd_ne hjn, upd_ne n87, upd_ne n78] at c126 ⊢
            refine e _ _ ⟨fun q q0 q1 q2 q3 q4 => ?_, ?_, ?_, ?_, ?_, ?_, ?_, fun k k7 k8 => ?_⟩ ?_
            · simp only [up_ne q0, up_ne q1, up_ne q2, up_ne q3, up_ne q4]
            · simp only [up_ne n3132, up_ne n3133, up_ne n3134, up_ne n3130, up_eq]; rfl
            · simp only [up_ne n3231, up_ne n3233, up_ne n3234, up_ne n3230, up_eq]; rfl
            · simp only [up_ne n3331, up_ne n3332, up_ne n3334, up_ne n3330, up_eq]; rfl
            · simp only [up_ne n3430, up_ne n3431, up_ne n3432, up_ne n3433, up_eq]
            · simp only [up_ne n3031, up_ne n3032, up_ne n3033, up_ne n3034, up_eq, upd_eq, upd_ne n78]; rfl
            · simp only [up_ne n3031, up_ne n3032, up_ne n3033, up_ne n3034, up_eq, upd_eq, upd_ne n87]
              first
                | (rw [if_pos (show 0 < clF σ p j from i_nle c126)])
                | (rw [if_neg (show ¬ 0 < clF σ p j from Int32.not_lt.mpr c126)])
            · simp only [up_ne n3031, up_ne n3032, up_ne n3033, up_ne n3034, up_eq, upd_ne k7, upd_ne k8]
            · rfl
        · refine st_ret hK rfl rfl ?_
          exfalso
          first | exact n1 c1 | exact absurd n2 (Int32.not_lt.mpr c7) | exact j1 c11 | exact c17 j2
end
