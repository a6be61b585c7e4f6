section
variable {d t : Nat} {σ : cw_V} {lam : Nat → Int64} {Q : cw_Q} {n k : Int32}
theorem lastK_hit {f : Nat → Int32} {k : Int32} {m : Nat} (h : f m = k) : lastK f k (m + 1) = m := if_pos h
def addF (σ : cw_V) (t s : Nat) (X Y : Int32) : cw_V := rowF (cw_up (cw_up (cw_up (cw_up (cw_up (cw_up σ (t + 1) s X) (t + 2) s Y) (t + 3) s 0) (t + 4) s 1) (t + 5) s (nI s)) t 8 (nI (s + 1))) (t + 5) (tchF (upd (σ (t + 5)) s (nI s)) s (nI s))
theorem z_addSink {X Y : Int32} {s : Nat} (ht : isT t) (hs : σ t 8 = nI s) (h8 : s < 8) (kk : Q (some (.int (nI s))) (cw_B (addF σ t s X Y) lam)) : cw_Z (d + 2) m_Tree_addSink [.ref t, .int X, .int Y] (cw_B σ lam) Q := by
  refine zi (L := [some (.ref t), some (.int X), some (.int Y), none]) rfl rfl (fun K hK => ?_)
  refine st_go hK rfl rfl ?_
  refine st_geti hK rfl (Tree_f8 ht) ?_
  rw [hs]
  refine st_go hK rfl rfl ?_
  refine st_go hK rfl rfl ?_
  refine st_if hK rfl rfl (fun c6 => ?_) (fun c6 => ?_)
  · refine st_go hK rfl rfl ?_
    refine st_ret hK rfl rfl ?_
    first
      | exact absurd c6 (nI_pos (by omega))
      | exact absurd (nI_lt (b := 8) h8 (by decide)) c12
  · refine st_go hK rfl rfl ?_
    refine st_go hK rfl rfl ?_
    refine st_if hK rfl rfl (fun c12 => ?_) (fun c12 => ?_)
    · refine st_go hK rfl rfl ?_
      refine st_getr hK rfl (Tree_f0 ht) ?_
      refine st_go hK rfl rfl ?_
      refine st_go hK rfl rfl ?_
      refine st_iast hK rfl (Tree_a0 ht) (cw_in_nI (n := 8) h8 (by decide)) ?_
      refine st_go hK rfl rfl ?_
      refine st_getr hK rfl (Tree_f1 ht) ?_
      refine st_go hK rfl rfl ?_
      refine st_go hK rfl rfl ?_
      refine st_iast hK rfl (Tree_a1 ht) (cw_in_nI (n := 8) h8 (by decide)) ?_
      refine st_go hK rfl rfl ?_
      refine st_getr hK rfl (Tree_f2 ht) ?_
      refine st_go hK rfl rfl ?_
      refine st_go hK rfl rfl ?_
      refine st_iast hK rfl (Tree_a2 ht) (cw_in_nI (n := 8) h8 (by decide)) ?_
      refine st_go hK rfl rfl ?_
      refine st_getr hK rfl (Tree_f3 ht) ?_
      refine st_go hK rfl rfl ?_
      refine st_go hK rfl rfl ?_
      refine st_iast hK rfl (Tree_a3 ht) (cw_in_nI (n := 8) h8 (by decide)) ?_
      refine st_go hK rfl rfl ?_
      refine st_getr hK rfl (Tree_f4 ht) ?_
      refine st_go hK rfl rfl ?_
      refine st_go hK rfl rfl ?_
      refine st_iast hK rfl (Tree_a4 ht) (cw_in_nI (n := 8) h8 (by decide)) ?_
      refine st_go hK rfl rfl ?_
      refine st_go hK rfl rfl ?_
      refine st_go hK rfl rfl ?_
      refine st_bin hK rfl ?_
      refine st_put hK rfl (Tree_f8 ht) rfl ?_
      refine st_go hK rfl rfl ?_
      refine st_go hK rfl rfl ?_
      refine cv1 hK rfl (Tree_c ht) (Nat.le_of_ble_eq_true rfl) ?_
      rw [nI_clamp (by omega), nI_1]
      refine z_touch (s := s + 1) ht (by rw [up_eq, upd_eq]) (by omega) ?_
      have e : cw_up (cw_up (cw_up (cw_up (cw_up (cw_up σ (t + 1) s X) (t + 2) s Y) (t + 3) s 0) (t + 4) s 1) (t + 5) s (nI s)) t 8 (nI (s + 1)) (t + 5) = upd (σ (t + 5)) s (nI s) := by
        rw [up_ne (by omega), up_eq, up_ne (by omega), up_ne (by omega), up_ne (by omega), up_ne (by omega)]
      rw [e, lastK_hit upd_eq]
      change K _ _ _ _
      refine st_go hK rfl rfl ?_
      refine st_ret hK rfl rfl ?_
      exact kk
    · refine st_go hK rfl rfl ?_
      refine st_ret hK rfl rfl ?_
      first
        | exact absurd c6 (nI_pos (by omega))
        | exact absurd (nI_lt (b := 8) h8 (by decide)) c12
theorem z_moveSink {X Y : Int32} {s : Nat} (ht : isT t) (hs : σ t 8 = nI s) (h8 : s ≤ 8) (hk : hSink σ t k) (kk : Q none (cw_B (rowF (cw_up (cw_up σ (t + 1) k.toNatClampNeg X) (t + 2) k.toNatClampNeg Y) (t + 5) (tchF (σ (t + 5)) (lastK (σ (t + 5)) k s) k)) lam)) : cw_Z (d + 2) m_Tree_moveSink [.ref t, .int k, .int X, .int Y] (cw_B σ lam) Q := by
  refine zi (L := [some (.ref t), some (.int k), some (.int X), some (.int Y)]) rfl rfl (fun K hK => ?_)
  refine st_go hK rfl rfl ?_
  refine st_go hK rfl rfl ?_
  refine cv1 hK rfl (Tree_c ht) (Nat.le_of_ble_eq_true rfl) ?_
  refine z_hasSink ht (fun _ => ?_) (fun hn => absurd hk hn)
  change K _ _ (_ :: _) _
  refine st_if hK rfl rfl (fun c => absurd c (by decide)) (fun _ => ?_)
  refine st_go hK rfl rfl ?_
  refine st_getr hK rfl (Tree_f0 ht) ?_
  refine st_go hK rfl rfl ?_
  refine st_go hK rfl rfl ?_
  refine st_iast hK rfl (Tree_a0 ht) hk.in ?_
  refine st_go hK rfl rfl ?_
  refine st_getr hK rfl (Tree_f1 ht) ?_
  refine st_go hK rfl rfl ?_
  refine st_go hK rfl rfl ?_
  refine st_iast hK rfl (Tree_a1 ht) hk.in ?_
  refine st_go hK rfl rfl ?_
  refine st_go hK rfl rfl ?_
  refine cv1 hK rfl (Tree_c ht) (Nat.le_of_ble_eq_true rfl) ?_
  refine z_touch (s := s) ht (by rw [up_ne (by omega), up_ne (by omega)]; exact hs) h8 ?_
  rw [up_ne (by omega), up_ne (by omega)]
  change K _ _ _ _
  refine st_ret hK rfl rfl ?_
  exact kk
def ajF (σ : cw_V) (t j : Nat) (a b : Int32) : cw_V := cw_up (cw_up (cw_up (cw_up (cw_up σ (t + 6) j a) (t + 7) j b) (t + 8) j (-1)) (t + 8) a.toNatClampNeg (nI j)) (t + 8) b.toNatClampNeg (nI j)
theorem nI_ne1 {j : Nat} (h : j < 2 ^ 31) : ¬ nI j = -1 := fun e => by
  have := congrArg Int32.toInt e
  rw [nI_toInt h] at this
  have e2 : (-1 : Int32).toInt = -1 := by decide
  omega
theorem z_addJoint {a b : Int32} {j : Nat} (ht : isT t) (hj : isF (σ (t + 6)) j) (ha : hNode σ t a) (hb : hNode σ t b) (kk : Q (some (.int (nI j))) (cw_B (ajF σ t j a b) lam)) : cw_Z (d + 3) m_Tree_addJoint [.ref t, .int a, .int b] (cw_B σ lam) Q := by
  have h15 := hj.1.2
  have hin : cw_in (nI j) 15 = true := cw_in_nI h15 (by decide)
  refine zi (L := [some (.ref t), some (.int a), some (.int b), none]) rfl rfl (fun K hK => ?_)
  refine st_go hK rfl rfl ?_
  refine cv0 hK rfl (Tree_c ht) (Nat.le_of_ble_eq_true rfl) ?_
  refine z_freeJoint ht hj ?_
  change K _ _ (_ :: _) _
  refine st_go hK rfl rfl ?_
  refine st_go hK rfl rfl ?_
  refine st_go hK rfl rfl ?_
  refine st_if hK rfl rfl (fun c7 => ?_) (fun c7 => ?_)
  · refine st_go hK rfl rfl ?_
    refine st_ret hK rfl rfl ?_
    exact absurd c7 (nI_ne1 (by omega))
  · refine st_go hK rfl rfl ?_
    refine st_go hK rfl rfl ?_
    refine cv1 hK rfl (Tree_c ht) (Nat.le_of_ble_eq_true rfl) ?_
    refine z_hasNode ht (fun _ => ?_) (fun hn => absurd ha hn)
    change K _ _ (_ :: _) _
    refine st_if hK rfl rfl (fun c => absurd c (by decide)) (fun _ => ?_)
    refine st_go hK rfl rfl ?_
    refine st_go hK rfl rfl ?_
    refine cv1 hK rfl (Tree_c ht) (Nat.le_of_ble_eq_true rfl) ?_
    refine z_hasNode ht (fun _ => ?_) (fun hn => absurd hb hn)
    change K _ _ (_ :: _) _
    refine st_if hK rfl rfl (fun _ => ?_) (fun c => absurd (by decide) c)
    refine st_go hK rfl rfl ?_
    refine st_getr hK rfl (Tree_f5 ht) ?_
    refine st_go hK rfl rfl ?_
    refine st_go hK rfl rfl ?_
    refine st_iast hK rfl (Tree_a5 ht) hin ?_
    refine st_go hK rfl rfl ?_
    refine st_getr hK rfl (Tree_f6 ht) ?_
    refine st_go hK rfl rfl ?_
    refine st_go hK rfl rfl ?_
    refine st_iast hK rfl (Tree_a6 ht) hin ?_
    refine st_go hK rfl rfl ?_
    refine st_getr hK rfl (Tree_f7 ht) ?_
    refine st_go hK rfl rfl ?_
    refine st_go hK rfl rfl ?_
    refine st_iast hK rfl (Tree_a7 ht) hin ?_
    refine st_go hK rfl rfl ?_
    refine st_getr hK rfl (Tree_f7 ht) ?_
    refine st_go hK rfl rfl ?_
    refine st_go hK rfl rfl ?_
    refine st_iast hK rfl (Tree_a7 ht) ha.in ?_
    refine st_go hK rfl rfl ?_
    refine st_getr hK rfl (Tree_f7 ht) ?_
    refine st_go hK rfl rfl ?_
    refine st_go hK rfl rfl ?_
    refine st_iast hK rfl (Tree_a7 ht) hb.in ?_
    refine st_go hK rfl rfl ?_
    refine st_ret hK rfl rfl ?_
    have hc : (nI j).toNatClampNeg = j := nI_clamp (by omega)
    rw [hc]
    exact kk
def hJointB (σ : cw_V) (t : Nat) (n : Int32) : Bool := decide (8 ≤ n) && decide (n < 15) && decide (σ (t + 6) n.toNatClampNeg ≠ -1)
theorem hJointB_iff {σ : cw_V} {t : Nat} {n : Int32} : hJointB σ t n = true ↔ hJoint σ t n := by
  unfold hJointB hJoint
  simp only [Bool.and_eq_true, decide_eq_true_eq, and_assoc]
def hNodeB (σ : cw_V) (t : Nat) (n : Int32) : Bool := decide (0 ≤ n) && decide (n < 15) && ((decide (n < 8) && decide (n < σ t 8)) || (decide (8 ≤ n) && decide (σ (t + 6) n.toNatClampNeg ≠ -1)))
theorem hNodeB_iff {σ : cw_V} {t : Nat} {n : Int32} : hNodeB σ t n = true ↔ hNode σ t n := by
  unfold hNodeB hNode
  simp only [Bool.and_eq_true, Bool.or_eq_true, decide_eq_true_eq, and_assoc]
def rcF (σ : cw_V) (t : Nat) (above old node : Int32) : cw_V := bif hJointB σ t above then (bif decide (σ (t + 6) above.toNatClampNeg = old) then cw_up (cw_up σ (t + 8) node.toNatClampNeg above) (t + 6) above.toNatClampNeg node else cw_up (cw_up σ (t + 8) node.toNatClampNeg above) (t + 7) above.toNatClampNeg node) else cw_up σ (t + 8) node.toNatClampNeg above
theorem rcF_0 {σ : cw_V} {t : Nat} {above old node : Int32} (h : ¬ hJoint σ t above) : rcF σ t above old node = cw_up σ (t + 8) node.toNatClampNeg above := by
  unfold rcF
  cases e : hJointB σ t above with
  | true => exact absurd (hJointB_iff.mp e) h
  | false => rfl
theorem rcF_l {σ : cw_V} {t : Nat} {above old node : Int32} (h : hJoint σ t above) (h2 : σ (t + 6) above.toNatClampNeg = old) : rcF σ t above old node = cw_up (cw_up σ (t + 8) node.toNatClampNeg above) (t + 6) above.toNatClampNeg node := by
  unfold rcF
  rw [hJointB_iff.mpr h, decide_eq_true h2]
  rfl
theorem rcF_r {σ : cw_V} {t : Nat} {above old node : Int32} (h : hJoint σ t above) (h2 : ¬ σ (t + 6) above.toNatClampNeg = old) : rcF σ t above old node = cw_up (cw_up σ (t + 8) node.toNatClampNeg above) (t + 7) above.toNatClampNeg node := by
  unfold rcF
  rw [hJointB_iff.mpr h, decide_eq_false h2]
  rfl
theorem hJoint_up8 {σ : cw_V} {t k : Nat} {x n : Int32} : hJoint (cw_up σ (t + 8) k x) t n ↔ hJoint σ t n := by
  unfold hJoint
  rw [up_ne (by omega)]
theorem hNode_up8 {σ : cw_V} {t k : Nat} {x n : Int32} : hNode (cw_up σ (t + 8) k x) t n ↔ hNode σ t n := by
  unfold hNode
  rw [up_ne (by omega), up_ne (by omega)]
theorem z_replaceChild {a b : Int32} (ht : isT t) (hn : hNode σ t n) (kk : Q none (cw_B (rcF σ t a b n) lam)) : cw_Z (d + 2) m_Tree_replaceChild [.ref t, .int a, .int b, .int n] (cw_B σ lam) Q := by
  refine zi (L := [some (.ref t), some (.int a), some (.int b), some (.int n)]) rfl rfl (fun K hK => ?_)
  refine st_go hK rfl rfl ?_
  refine st_go hK rfl rfl ?_
  refine cv1 hK rfl (Tree_c ht) (Nat.le_of_ble_eq_true rfl) ?_
  refine z_hasNode ht (fun _ => ?_) (fun z => absurd hn z)
  change K _ _ (_ :: _) _
  refine st_if hK rfl rfl (fun _ => ?_) (fun c => absurd (by decide) c)
  refine st_go hK rfl rfl ?_
  refine st_getr hK rfl (Tree_f7 ht) ?_
  refine st_go hK rfl rfl ?_
  refine st_go hK rfl rfl ?_
  refine st_iast hK rfl (Tree_a7 ht) hn.in ?_
  refine st_go hK rfl rfl ?_
  refine st_go hK rfl rfl ?_
  refine cv1 hK rfl (Tree_c ht) (Nat.le_of_ble_eq_true rfl) ?_
  refine z_isJoint ht (fun hj => ?_) (fun hj => ?_)
  all_goals rw [hJoint_up8] at hj
  · change K _ _ (_ :: _) _
    refine st_if hK rfl rfl (fun c => absurd c (by decide)) (fun _ => ?_)
    refine st_go hK rfl rfl ?_
    refine st_getr hK rfl (Tree_f5 ht) ?_
    refine st_go hK rfl rfl ?_
    refine st_iald hK rfl (Tree_a5 ht) hj.in ?_
    refine st_go hK rfl rfl ?_
    refine st_if hK rfl rfl (fun c31 => ?_) (fun c31 => ?_)
    · refine st_go hK rfl rfl ?_
      refine st_getr hK rfl (Tree_f6 ht) ?_
      refine st_go hK rfl rfl ?_
      refine st_go hK rfl rfl ?_
      refine st_iast hK rfl (Tree_a6 ht) hj.in ?_
      refine st_ret hK rfl rfl ?_
      first
        | (rw [up_ne (by omega)] at c31; rw [rcF_l hj (Classical.not_not.mp c31)] at kk; exact kk)
        | (rw [up_ne (by omega)] at c31; rw [rcF_r hj c31] at kk; exact kk)
        | (rw [rcF_0 hj] at kk; exact kk)
    · refine st_go hK rfl rfl ?_
      refine st_getr hK rfl (Tree_f5 ht) ?_
      refine st_go hK rfl rfl ?_
      refine st_go hK rfl rfl ?_
      refine st_iast hK rfl (Tree_a5 ht) hj.in ?_
      refine st_go hK rfl rfl ?_
      refine st_ret hK rfl rfl ?_
      first
        | (rw [up_ne (by omega)] at c31; rw [rcF_l hj (Classical.not_not.mp c31)] at kk; exact kk)
        | (rw [up_ne (by omega)] at c31; rw [rcF_r hj c31] at kk; exact kk)
        | (rw [rcF_0 hj] at kk; exact kk)
  · change K _ _ (_ :: _) _
    refine st_if hK rfl rfl (fun _ => ?_) (fun c => absurd (by decide) c)
    refine st_ret hK rfl rfl ?_
    first
      | (rw [up_ne (by omega)] at c31; rw [rcF_l hj (Classical.not_not.mp c31)] at kk; exact kk)
      | (rw [up_ne (by omega)] at c31; rw [rcF_r hj c31] at kk; exact kk)
      | (rw [rcF_0 hj] at kk; exact kk)
/-- the joint above, or -1 -/
def pof (σ : cw_V) (t : Nat) (n : Int32) : Int32 := bif hNodeB σ t n then σ (t + 8) n.toNatClampNeg else -1
theorem pof_1 {σ : cw_V} {t : Nat} {n : Int32} (h : hNode σ t n) : pof σ t n = σ (t + 8) n.toNatClampNeg := by
  unfold pof
  rw [hNodeB_iff.mpr h]
  rfl
theorem pof_0 {σ : cw_V} {t : Nat} {n : Int32} (h : ¬ hNode σ t n) : pof σ t n = -1 := by
  unfold pof
  cases e : hNodeB σ t n with
  | true => exact absurd (hNodeB_iff.mp e) h
  | false => rfl
/-- whether a is n or above n, within m steps -/
def wiF (σ : cw_V) (t : Nat) (a : Int32) : Nat → Int32 → Prop
  | 0, _ => False
  | m + 1, n => n ≠ -1 ∧ (n = a ∨ wiF σ t a m (pof σ t n))
theorem z_isWithin {a : Int32} (ht : isT t) (k1 : wiF σ t a 15 n → Q (some (.int 1)) (cw_B σ lam)) (k0 : ¬ wiF σ t a 15 n → Q (some (.int 0)) (cw_B σ lam)) : cw_Z (d + 3) m_Tree_isWithin [.ref t, .int n, .int a] (cw_B σ lam) Q := by
  refine zi (L := [some (.ref t), some (.int n), some (.int a), none, none]) rfl rfl (fun K hK => ?_)
  have loop : ∀ m i x, i + m = 15 → (wiF σ t a m x → Q (some (.int 1)) (cw_B σ lam)) → (¬ wiF σ t a m x → Q (some (.int 0)) (cw_B σ lam)) → K 5 [some (.ref t), some (.int n), some (.int a), some (.int x), some (.int (nI i))] [] (cw_B σ lam) := by
    intro m
    induction m with
    | zero =>
      intro i x hi q1 q0
      refine st_go hK rfl rfl ?_
      refine st_go hK rfl rfl ?_
      refine st_if hK rfl rfl (fun c9 => ?_) (fun c9 => ?_)
      · refine st_go hK rfl rfl ?_
        refine st_zret hK rfl (Or.inl rfl) ?_
        exact q0 (fun z => z)
      · have := nle (a := 15) (i := i) (by decide) (by omega) c9
        omega
    | succ m ih =>
      intro i x hi q1 q0
      refine st_go hK rfl rfl ?_
      refine st_go hK rfl rfl ?_
      refine st_if hK rfl rfl (fun c9 => ?_) (fun c9 => ?_)
      · have := yle (a := 15) (i := i) (by decide) (by omega) c9
        omega
      · refine st_go hK rfl rfl ?_
        refine st_go hK rfl rfl ?_
        refine st_if hK rfl rfl (fun c14 => ?_) (fun c14 => ?_)
        · refine st_go hK rfl rfl ?_
          refine st_zret hK rfl (Or.inl rfl) ?_
          exact q0 (fun z => z.1 c14)
        · refine st_go hK rfl rfl ?_
          refine st_go hK rfl rfl ?_
          refine st_if hK rfl rfl (fun c19 => ?_) (fun c19 => ?_)
          · refine st_go hK rfl rfl ?_
            refine st_go hK rfl rfl ?_
            refine cv1 hK rfl (Tree_c ht) (Nat.le_of_ble_eq_true rfl) ?_
            have hp : K 29 [some (.ref t), some (.int n), some (.int a), some (.int x), some (.int (nI i))] [.int (pof σ t x)] (cw_B σ lam) := by
              refine st_go hK rfl rfl ?_
              refine st_go hK rfl rfl ?_
              refine st_go hK rfl rfl ?_
              have := ih (i + 1) (pof σ t x) (by omega) (fun z => q1 ⟨c14, Or.inr z⟩) (fun z => q0 (fun y => y.2.elim (fun e => c19 e) z))
              rw [← nI_1] at this
              exact this
            refine z_parentOf ht (fun hn => ?_) (fun hn => ?_)
            · rw [pof_1 hn] at hp
              exact hp
            · rw [pof_0 hn] at hp
              exact hp
          · refine st_go hK rfl rfl ?_
            refine st_zret hK rfl (Or.inr rfl) ?_
            exact q1 ⟨c14, Or.inl (Classical.not_not.mp c19)⟩
  refine st_go hK rfl rfl ?_
  refine st_go hK rfl rfl ?_
  refine st_go hK rfl rfl ?_
  refine st_go hK rfl rfl ?_
  exact loop 15 0 n rfl k1 k0
end
