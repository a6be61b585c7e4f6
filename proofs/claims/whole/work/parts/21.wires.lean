/-! WIRES: the nodes listed downward -/
theorem isWT {w t i k : Nat} (hw : isW w) (ht : isT t) (hi : i ≤ 8) (hk : k ≤ 19) : t + i ≠ w + k := by
  refine ht.cases (P := fun t => t + i ≠ w + k) ?_ ?_ (fun j hj => ?_) <;> (rcases hw with rfl | rfl <;> omega)
section
variable {d w t : Nat} {σ τ : cw_V} {lam : Nat → Int64} {Q : cw_Q} {n : Int32}
theorem z_list {c : Nat} (hw : isW w) (h4 : σ w 4 = nI c) (hc : c < 15) (kk : Q none (cw_B (cw_up (cw_up σ (w + 4) c n) w 4 (nI (c + 1))) lam)) : cw_Z (d + 1) m_Wires_list [.ref w, .int n] (cw_B σ lam) Q := by
  refine zi (L := [some (.ref w), some (.int n)]) rfl rfl (fun K hK => ?_)
  refine st_go hK rfl rfl ?_
  refine st_geti hK rfl (Wires_f4 hw) ?_
  rw [h4]
  refine st_if hK rfl rfl (fun c4 => ?_) (fun c4 => ?_)
  · refine st_ret hK rfl rfl ?_
    first
      | (exfalso; exact nI_pos (by omega) c4)
      | (exfalso; have := yle (a := 15) (i := c) (by decide) (by omega) c13; omega)
      | (rw [nI_clamp (by omega), up_ne (by omega), h4, nI_1]; exact kk)
  · refine st_go hK rfl rfl ?_
    refine st_geti hK rfl (Wires_f4 hw) ?_
    rw [h4]
    refine st_go hK rfl rfl ?_
    refine st_if hK rfl rfl (fun c13 => ?_) (fun c13 => ?_)
    · refine st_ret hK rfl rfl ?_
      first
        | (exfalso; exact nI_pos (by omega) c4)
        | (exfalso; have := yle (a := 15) (i := c) (by decide) (by omega) c13; omega)
        | (rw [nI_clamp (by omega), up_ne (by omega), h4, nI_1]; exact kk)
    · refine st_go hK rfl rfl ?_
      refine st_getr hK rfl (Wires_f3 hw) ?_
      refine st_go hK rfl rfl ?_
      refine st_geti hK rfl (Wires_f4 hw) ?_
      rw [h4]
      refine st_go hK rfl rfl ?_
      refine st_iast hK rfl (Wires_a3 hw) (cw_in_nI hc (by decide)) ?_
      refine st_go hK rfl rfl ?_
      refine st_go hK rfl rfl ?_
      refine st_geti hK rfl (Wires_f4 hw) ?_
      refine st_go hK rfl rfl ?_
      refine st_bin hK rfl ?_
      refine st_put hK rfl (Wires_f4 hw) rfl ?_
      refine st_ret hK rfl rfl ?_
      first
        | (exfalso; exact nI_pos (by omega) c4)
        | (exfalso; have := yle (a := 15) (i := c) (by decide) (by omega) c13; omega)
        | (rw [nI_clamp (by omega), up_ne (by omega), h4, nI_1]; exact kk)
/-- the list D lies in the wires at w; besides, only the counts may differ -/
def LR (σ τ : cw_V) (w : Nat) (D : List Int32) : Prop := (∀ p, p ≠ w → p ≠ w + 4 → τ p = σ p) ∧ τ w 6 = σ w 6 ∧ τ w 4 = nI D.length ∧ D.length ≤ 15 ∧ ∀ j, j < D.length → τ (w + 4) j = D.getD j 0
theorem LR.push {D : List Int32} (h : LR σ τ w D) (hl : D.length < 15) : LR σ (cw_up (cw_up τ (w + 4) D.length n) w 4 (nI (D.length + 1))) w (D ++ [n]) := by
  obtain ⟨h1, h6, h2, h3, h4⟩ := h
  refine ⟨fun p p1 p2 => ?_, ?_, ?_, ?_, fun j hj => ?_⟩
  · rw [up_ne p1, up_ne p2, h1 p p1 p2]
  · rw [up_eq, upd_ne (by decide), up_ne (by omega), h6]
  · rw [up_eq, upd_eq, List.length_append, List.length_singleton]
  · rw [List.length_append, List.length_singleton]
    omega
  · rw [List.length_append, List.length_singleton] at hj
    rw [up_ne (by omega), up_eq]
    rcases Nat.lt_or_ge j D.length with q | q
    · rw [upd_ne (by omega), h4 j q, List.getD_eq_getElem?_getD, List.getD_eq_getElem?_getD, List.getElem?_append_left q]
    · have e : j = D.length := by omega
      subst e
      rw [upd_eq, List.getD_eq_getElem?_getD, List.getElem?_append_right (Nat.le_refl _)]
      simp
theorem LR.row {D : List Int32} (h : LR σ τ w D) (hw : isW w) (ht : isT t) {i : Nat} (hi : i ≤ 8) : τ (t + i) = σ (t + i) := h.1 _ (isWT hw ht hi (k := 0) (by decide)) (isWT hw ht hi (k := 4) (by decide))
theorem LR.row0 {D : List Int32} (h : LR σ τ w D) (hw : isW w) (ht : isT t) : τ t = σ t := h.row hw ht (i := 0) (by decide)
theorem hNode_eq {m : Int32} (e0 : τ t 8 = σ t 8) (e6 : τ (t + 6) = σ (t + 6)) : hNode τ t m ↔ hNode σ t m := by
  unfold hNode
  rw [e0, e6]
theorem hTop_eq {m : Int32} (e0 : τ t 8 = σ t 8) (e6 : τ (t + 6) = σ (t + 6)) (e8 : τ (t + 8) = σ (t + 8)) : hTop τ t m ↔ hTop σ t m := by
  unfold hTop
  rw [hNode_eq e0 e6, e8]
theorem hJoint_eq {m : Int32} (e6 : τ (t + 6) = σ (t + 6)) : hJoint τ t m ↔ hJoint σ t m := by
  unfold hJoint
  rw [e6]
def topB (σ : cw_V) (t n : Nat) : Bool := hNodeB σ t (nI n) && decide (σ (t + 8) n = -1)
theorem topB_iff {n : Nat} (hn : n < 15) : topB σ t n = true ↔ hTop σ t (nI n) := by
  unfold topB hTop
  rw [Bool.and_eq_true, hNodeB_iff, decide_eq_true_eq, nI_clamp (by omega)]
/-- the tops below m, ascending -/
def tlF (σ : cw_V) (t : Nat) : Nat → List Int32
  | 0 => []
  | m + 1 => bif topB σ t m then tlF σ t m ++ [nI m] else tlF σ t m
theorem tlF_len : ∀ m, (tlF σ t m).length ≤ m
  | 0 => Nat.le_refl 0
  | m + 1 => by
    have := tlF_len m
    unfold tlF
    cases topB σ t m with
    | true => simp; omega
    | false => simp; omega
/-- then the children, each behind its joint -/
def bf (σ : cw_V) (t : Nat) : Nat → Nat → List Int32 → List Int32
  | 0, _, D => D
  | f + 1, i, D => match D[i]? with
    | none => D
    | some n => bf σ t f (i + 1) (bif hJointB σ t n then D ++ [σ (t + 6) n.toNatClampNeg, σ (t + 7) n.toNatClampNeg] else D)
theorem bf_len : ∀ (f i : Nat) (D : List Int32), D.length ≤ (bf σ t f i D).length
  | 0, _, _ => Nat.le_refl _
  | f + 1, i, D => by
    unfold bf
    split
    · exact Nat.le_refl _
    · rename_i n _
      refine Nat.le_trans ?_ (bf_len f (i + 1) _)
      cases hJointB σ t n with
      | true => simp
      | false => exact Nat.le_refl _
theorem bf_s {f i : Nat} {D : List Int32} {n : Int32} (h : D[i]? = some n) : bf σ t (f + 1) i D = bf σ t f (i + 1) (bif hJointB σ t n then D ++ [σ (t + 6) n.toNatClampNeg, σ (t + 7) n.toNatClampNeg] else D) := by
  show (match D[i]? with
    | none => D
    | some n => bf σ t f (i + 1) (bif hJointB σ t n then D ++ [σ (t + 6) n.toNatClampNeg, σ (t + 7) n.toNatClampNeg] else D)) = _
  rw [h]
theorem bf_0 {f i : Nat} {D : List Int32} (h : D.length ≤ i) : bf σ t f i D = D := by
  cases f with
  | zero => rfl
  | succ f =>
    show (match D[i]? with
      | none => D
      | some n => bf σ t f (i + 1) (bif hJointB σ t n then D ++ [σ (t + 6) n.toNatClampNeg, σ (t + 7) n.toNatClampNeg] else D)) = _
    rw [List.getElem?_eq_none h]
/-- all nodes, downward -/
def dnF (σ : cw_V) (t : Nat) : List Int32 := bf σ t 16 0 (tlF σ t 15)
theorem hJoint.node {m : Int32} (h : hJoint σ t m) : hNode σ t m := ⟨Int32.not_lt.mp (i_ge0 h.1), h.2.1, Or.inr ⟨h.1, h.2.2⟩⟩
theorem z_listDownward (hw : isW w) (ht : isT t) (hlen : (dnF σ t).length ≤ 15) (kk : ∀ τ, LR σ τ w (dnF σ t) → τ w 5 = nI (tlF σ t 15).length → Q none (cw_B τ lam)) : cw_Z (d + 3) m_Wires_listDownward [.ref w, .ref t] (cw_B σ lam) Q := by
  refine zi (L := [some (.ref w), some (.ref t), none, none]) rfl rfl (fun K hK => ?_)
  have loop2 : ∀ f i τ (D : List Int32) (x : Option Value), LR σ τ w D → τ w 5 = nI (tlF σ t 15).length → i ≤ D.length → i + f = 16 → bf σ t f i D = dnF σ t → K 42 [some (.ref w), some (.ref t), some (.int (nI i)), x] [] (cw_B τ lam) := by
    intro f
    induction f with
    | zero =>
      intro i τ D x hD h5 hi hf e
      have := hD.2.2.2.1
      omega
    | succ f ih =>
      intro i τ D x hD h5 hi hf e
      have hle := hD.2.2.2.1
      refine st_go hK rfl rfl ?_
      refine st_go hK rfl rfl ?_
      refine st_geti hK rfl (Wires_f4 hw) ?_
      rw [hD.2.2.1]
      refine st_if hK rfl rfl (fun c47 => ?_) (fun c47 => ?_)
      · refine st_ret hK rfl rfl ?_
        have : D.length ≤ i := (nI_leI (by omega) (by omega)).mp c47
        rw [bf_0 this] at e
        subst e
        exact kk τ hD h5
      · have hlt : i < D.length := Nat.not_le.mp (fun z => c47 ((nI_leI (by omega) (by omega)).mpr z))
        refine st_go hK rfl rfl ?_
        refine st_go hK rfl rfl ?_
        refine st_if hK rfl rfl (fun c53 => ?_) (fun c53 => ?_)
        · have := yle (a := 15) (i := i) (by decide) (by omega) c53
          omega
        · refine st_go hK rfl rfl ?_
          refine st_getr hK rfl (Wires_f3 hw) ?_
          refine st_go hK rfl rfl ?_
          refine st_iald hK rfl (Wires_a3 hw) (cw_in_nI (n := 15) (by omega) (by decide)) ?_
          rw [nI_clamp (by omega), hD.2.2.2.2 i hlt]
          have hget : D[i]? = some (D.getD i 0) := by rw [List.getD_eq_getElem?_getD, List.getElem?_eq_getElem hlt]; rfl
          rw [bf_s hget] at e
          generalize D.getD i 0 = n at e hget ⊢
          refine st_go hK rfl rfl ?_
          refine st_go hK rfl rfl ?_
          refine st_go hK rfl rfl ?_
          refine cv1 hK rfl (Tree_c ht) (Nat.le_of_ble_eq_true rfl) ?_
          refine z_isJoint ht (fun hj => ?_) (fun hj => ?_)
          · change K _ _ (_ :: _) _
            rw [hJoint_eq (hD.row hw ht (by decide))] at hj
            rw [hJointB_iff.mpr hj] at e
            have e' : bf σ t f (i + 1) (D ++ [σ (t + 6) n.toNatClampNeg, σ (t + 7) n.toNatClampNeg]) = dnF σ t := e
            have hl2 := bf_len (σ := σ) (t := t) f (i + 1) (D ++ [σ (t + 6) n.toNatClampNeg, σ (t + 7) n.toNatClampNeg])
            rw [e', List.length_append] at hl2
            have hl3 : D.length + 2 ≤ 15 := Nat.le_trans hl2 hlen
            refine st_if hK rfl rfl (fun c => absurd c (by decide)) (fun _ => ?_)
            refine st_go hK rfl rfl ?_
            refine st_go hK rfl rfl ?_
            refine st_go hK rfl rfl ?_
            refine cv1 hK rfl (Tree_c ht) (Nat.le_of_ble_eq_true rfl) ?_
            refine z_leftOf ht (fun _ => ?_) (fun z => absurd ((hNode_eq (congrFun (hD.row0 hw ht) 8) (hD.row hw ht (by decide))).mpr hj.node) z)
            change K _ _ (_ :: _) _
            rw [hD.row hw ht (i := 6) (by decide)]
            refine cv1 hK rfl (Wires_c hw) (Nat.le_of_ble_eq_true rfl) ?_
            refine z_list hw hD.2.2.1 (by omega) ?_
            have hD1 := hD.push (n := σ (t + 6) n.toNatClampNeg) (by omega)
            have h51 : cw_up (cw_up τ (w + 4) D.length (σ (t + 6) n.toNatClampNeg)) w 4 (nI (D.length + 1)) w 5 = nI (tlF σ t 15).length := by rw [up_eq, upd_ne (by decide), up_ne (by omega), h5]
            generalize cw_up (cw_up τ (w + 4) D.length (σ (t + 6) n.toNatClampNeg)) w 4 (nI (D.length + 1)) = τ1 at hD1 h51 ⊢
            change K _ _ _ _
            refine st_go hK rfl rfl ?_
            refine st_go hK rfl rfl ?_
            refine st_go hK rfl rfl ?_
            refine cv1 hK rfl (Tree_c ht) (Nat.le_of_ble_eq_true rfl) ?_
            refine z_rightOf ht (fun _ => ?_) (fun z => absurd ((hNode_eq (congrFun (hD1.row0 hw ht) 8) (hD1.row hw ht (by decide))).mpr hj.node) z)
            change K _ _ (_ :: _) _
            rw [hD1.row hw ht (i := 7) (by decide)]
            refine cv1 hK rfl (Wires_c hw) (Nat.le_of_ble_eq_true rfl) ?_
            refine z_list hw hD1.2.2.1 (by rw [List.length_append, List.length_singleton]; omega) ?_
            have hD2 := hD1.push (n := σ (t + 7) n.toNatClampNeg) (by rw [List.length_append, List.length_singleton]; omega)
            have h52 : cw_up (cw_up τ1 (w + 4) (D ++ [σ (t + 6) n.toNatClampNeg]).length (σ (t + 7) n.toNatClampNeg)) w 4 (nI ((D ++ [σ (t + 6) n.toNatClampNeg]).length + 1)) w 5 = nI (tlF σ t 15).length := by rw [up_eq, upd_ne (by decide), up_ne (by omega), h51]
            generalize cw_up (cw_up τ1 (w + 4) (D ++ [σ (t + 6) n.toNatClampNeg]).length (σ (t + 7) n.toNatClampNeg)) w 4 (nI ((D ++ [σ (t + 6) n.toNatClampNeg]).length + 1)) = τ2 at hD2 h52 ⊢
            change K _ _ _ _
            refine st_go hK rfl rfl ?_
            refine st_go hK rfl rfl ?_
            rw [List.append_assoc] at hD2
            have := ih (i + 1) τ2 _ (some (.int n)) hD2 h52 (by rw [List.length_append]; omega) (by omega) e'
            rw [← nI_1] at this
            exact this
          · change K _ _ (_ :: _) _
            rw [hJoint_eq (hD.row hw ht (by decide))] at hj
            have hjb : hJointB σ t n = false := by
              cases z : hJointB σ t n with
              | true => exact absurd (hJointB_iff.mp z) hj
              | false => rfl
            rw [hjb] at e
            refine st_if hK rfl rfl (fun _ => ?_) (fun c => absurd (by decide) c)
            refine st_go hK rfl rfl ?_
            refine st_go hK rfl rfl ?_
            have := ih (i + 1) τ D (some (.int n)) hD h5 (by omega) (by omega) e
            rw [← nI_1] at this
            exact this
  have loop1 : ∀ m i τ, i + m = 15 → LR σ τ w (tlF σ t i) → K 7 [some (.ref w), some (.ref t), some (.int (nI i)), none] [] (cw_B τ lam) := by
    intro m
    induction m with
    | zero =>
      intro i τ hi hD
      refine st_go hK rfl rfl ?_
      refine st_go hK rfl rfl ?_
      refine st_if hK rfl rfl (fun c10 => ?_) (fun c10 => ?_)
      · refine st_go hK rfl rfl ?_
        refine st_go hK rfl rfl ?_
        refine st_geti hK rfl (Wires_f4 hw) ?_
        refine st_put hK rfl (Wires_f5 hw) rfl ?_
        refine st_go hK rfl rfl ?_
        refine st_go hK rfl rfl ?_
        have e15 : i = 15 := by omega
        subst e15
        rw [hD.2.2.1]
        refine loop2 16 0 _ (tlF σ t 15) none ⟨fun p p1 p2 => ?_, ?_, ?_, hD.2.2.2.1, fun j hj => ?_⟩ ?_ (Nat.zero_le _) rfl rfl
        · rw [up_ne p1, hD.1 p p1 p2]
        · rw [up_eq, upd_ne (by decide), hD.2.1]
        · rw [up_eq, upd_ne (by decide), hD.2.2.1]
        · rw [up_ne (by omega), hD.2.2.2.2 j hj]
        · rw [up_eq, upd_eq]
      · have := nle (a := 15) (i := i) (by decide) (by omega) c10
        omega
    | succ m ih =>
      intro i τ hi hD
      have hlen1 := tlF_len (σ := σ) (t := t) i
      refine st_go hK rfl rfl ?_
      refine st_go hK rfl rfl ?_
      refine st_if hK rfl rfl (fun c10 => ?_) (fun c10 => ?_)
      · have := yle (a := 15) (i := i) (by decide) (by omega) c10
        omega
      · refine st_go hK rfl rfl ?_
        refine st_go hK rfl rfl ?_
        refine cv1 hK rfl (Tree_c ht) (Nat.le_of_ble_eq_true rfl) ?_
        refine z_isTop ht (fun hj => ?_) (fun hj => ?_)
        · change K _ _ (_ :: _) _
          rw [hTop_eq (congrFun (hD.row0 hw ht) 8) (hD.row hw ht (by decide)) (hD.row hw ht (by decide)), ← topB_iff (by omega)] at hj
          refine st_if hK rfl rfl (fun c => absurd c (by decide)) (fun _ => ?_)
          refine st_go hK rfl rfl ?_
          refine st_go hK rfl rfl ?_
          refine cv1 hK rfl (Wires_c hw) (Nat.le_of_ble_eq_true rfl) ?_
          refine z_list hw hD.2.2.1 (by omega) ?_
          have hD1 := hD.push (n := nI i) (by omega)
          generalize cw_up (cw_up τ (w + 4) (tlF σ t i).length (nI i)) w 4 (nI ((tlF σ t i).length + 1)) = τ1 at hD1 ⊢
          change K _ _ _ _
          refine st_go hK rfl rfl ?_
          refine st_go hK rfl rfl ?_
          have e : tlF σ t (i + 1) = tlF σ t i ++ [nI i] := by
            show (bif topB σ t i then _ else _) = _
            rw [hj]
            rfl
          rw [← e] at hD1
          have := ih (i + 1) τ1 (by omega) hD1
          rw [← nI_1] at this
          exact this
        · change K _ _ (_ :: _) _
          rw [hTop_eq (congrFun (hD.row0 hw ht) 8) (hD.row hw ht (by decide)) (hD.row hw ht (by decide)), ← topB_iff (by omega)] at hj
          refine st_if hK rfl rfl (fun _ => ?_) (fun c => absurd (by decide) c)
          refine st_go hK rfl rfl ?_
          refine st_go hK rfl rfl ?_
          have e : tlF σ t (i + 1) = tlF σ t i := by
            show (bif topB σ t i then _ else _) = _
            rw [Bool.eq_false_iff.mpr hj]
            rfl
          rw [← e] at hD
          have := ih (i + 1) τ (by omega) hD
          rw [← nI_1] at this
          exact this
  refine st_go hK rfl rfl ?_
  refine st_go hK rfl rfl ?_
  refine st_put hK rfl (Wires_f4 hw) rfl ?_
  refine st_go hK rfl rfl ?_
  refine st_go hK rfl rfl ?_
  refine loop1 15 0 _ rfl ⟨fun p p1 p2 => up_ne p1, ?_, ?_, Nat.zero_le _, fun j hj => absurd hj (Nat.not_lt_zero j)⟩
  · rw [up_eq, upd_ne (by decide)]
  · rw [up_eq, upd_eq]
    rfl
end
