section
variable {d t : Nat} {σ : cw_V} {lam : Nat → Int64} {Q : cw_Q} {n k : Int32}
/-- the last index below m at which f is k, or 0 -/
def lastK (f : Nat → Int32) (k : Int32) : Nat → Nat
  | 0 => 0
  | m + 1 => if f m = k then m else lastK f k m
theorem lastK_le {f : Nat → Int32} {k : Int32} : ∀ m, lastK f k m ≤ m
  | 0 => Nat.le_refl 0
  | m + 1 => by
    unfold lastK
    split
    · omega
    · have := lastK_le (f := f) (k := k) m
      omega
theorem lastK_lt {f : Nat → Int32} {k : Int32} {m : Nat} (h : 0 < m) : lastK f k m < m := by
  obtain ⟨q, rfl⟩ : ∃ q, m = q + 1 := ⟨m - 1, by omega⟩
  unfold lastK
  split
  · omega
  · have := lastK_le (f := f) (k := k) q
    omega
/-- those from i on up to fr have moved by one -/
def shF (f : Nat → Int32) (fr i : Nat) : Nat → Int32 := fun j => if i < j ∧ j ≤ fr then f (j - 1) else f j
def tchF (f : Nat → Int32) (fr : Nat) (k : Int32) : Nat → Int32 := upd (shF f fr 0) 0 k
theorem shF_self {f : Nat → Int32} {fr : Nat} : shF f fr fr = f := by
  funext j
  unfold shF
  rw [if_neg (by omega)]
theorem shF_s {f : Nat → Int32} {fr i : Nat} (h : i + 1 ≤ fr) : upd (shF f fr (i + 1)) (i + 1) (shF f fr (i + 1) i) = shF f fr i := by
  funext j
  unfold upd
  by_cases e : j = i + 1
  · subst e
    rw [if_pos rfl]
    unfold shF
    rw [if_neg (by omega), if_pos (by omega)]
    rfl
  · rw [if_neg e]
    unfold shF
    by_cases z : i + 1 < j ∧ j ≤ fr
    · rw [if_pos z, if_pos (by omega)]
    · rw [if_neg z, if_neg (by omega)]
def rowF (σ : cw_V) (p : Nat) (f : Nat → Int32) : cw_V := fun q => if q = p then f else σ q
theorem row_eq {σ : cw_V} {p : Nat} {f : Nat → Int32} : rowF σ p f p = f := if_pos rfl
theorem row_ne {σ : cw_V} {p q : Nat} {f : Nat → Int32} (h : q ≠ p) : rowF σ p f q = σ q := if_neg h
theorem row_self {σ : cw_V} {p : Nat} : rowF σ p (σ p) = σ := by
  funext q
  unfold rowF
  split
  · rename_i e; rw [e]
  · rfl
theorem up_row {σ : cw_V} {p k : Nat} {f : Nat → Int32} {x : Int32} : cw_up (rowF σ p f) p k x = rowF σ p (upd f k x) := by
  funext q
  by_cases e : q = p
  · subst e; rw [up_eq, row_eq, row_eq]
  · rw [up_ne e, row_ne e, row_ne e]
theorem z_touch {s : Nat} (ht : isT t) (hs : σ t 8 = nI s) (h8 : s ≤ 8) (kk : Q none (cw_B (rowF σ (t + 5) (tchF (σ (t + 5)) (lastK (σ (t + 5)) k s) k)) lam)) : cw_Z (d + 1) m_Tree_touch [.ref t, .int k] (cw_B σ lam) Q := by
  refine zi (L := [some (.ref t), some (.int k), none, none]) rfl rfl (fun K hK => ?_)
  have loop2 : ∀ fr i, fr ≤ 8 → i ≤ fr → (fr < 8) → Q none (cw_B (rowF σ (t + 5) (tchF (σ (t + 5)) fr k)) lam) → K 38 [some (.ref t), some (.int k), some (.int (nI fr)), some (.int (nI i))] [] (cw_B (rowF σ (t + 5) (shF (σ (t + 5)) fr i)) lam) := by
    intro fr i h1 h2 h3 kq
    induction i with
    | zero =>
      refine st_go hK rfl rfl ?_
      refine st_if hK rfl rfl (fun c39 => ?_) (fun c39 => absurd (by decide) c39)
      refine st_go hK rfl rfl ?_
      refine st_getr hK rfl (Tree_f4 ht) ?_
      refine st_go hK rfl rfl ?_
      refine st_go hK rfl rfl ?_
      refine st_iast hK rfl (Tree_a4 ht) (by decide) ?_
      refine st_ret hK rfl rfl ?_
      rw [up_row]
      exact kq
    | succ i ih =>
      refine st_go hK rfl rfl ?_
      refine st_if hK rfl rfl (fun c39 => ?_) (fun c39 => ?_)
      · have : i + 1 ≤ 0 := (nI_leI (a := i + 1) (b := 0) (by omega) (by decide)).mp c39
        omega
      · refine st_go hK rfl rfl ?_
        refine st_getr hK rfl (Tree_f4 ht) ?_
        refine st_go hK rfl rfl ?_
        refine st_go hK rfl rfl ?_
        refine st_getr hK rfl (Tree_f4 ht) ?_
        refine st_go hK rfl rfl ?_
        refine st_go hK rfl rfl ?_
        refine st_go hK rfl rfl ?_
        have e1 : nI (i + 1) - 1 = nI i := nI_pred i
        refine st_iald hK rfl (Tree_a4 ht) (by show cw_in (nI (i + 1) - 1) 8 = true; rw [e1]; exact cw_in_nI (by omega) (by decide)) ?_
        refine st_iast hK rfl (Tree_a4 ht) (cw_in_nI (by omega) (by decide)) ?_
        refine st_go hK rfl rfl ?_
        refine st_go hK rfl rfl ?_
        show K 38 [some (.ref t), some (.int k), some (.int (nI fr)), some (.int (nI (i + 1) + -1))] [] (cw_B (cw_up (rowF σ (t + 5) (shF (σ (t + 5)) fr (i + 1))) (t + 5) (nI (i + 1)).toNatClampNeg (rowF σ (t + 5) (shF (σ (t + 5)) fr (i + 1)) (t + 5) (nI (i + 1) - 1).toNatClampNeg)) lam)
        rw [e1, nI_clamp (by omega), nI_clamp (by omega), up_row, row_eq, shF_s (by omega), pk_m1]
        exact ih (by omega)
  have mid : ∀ s0, s0 = s → K 36 [some (.ref t), some (.int k), some (.int (nI (lastK (σ (t + 5)) k s))), some (.int (nI s0))] [] (cw_B σ lam) := by
    intro s0 _
    refine st_go hK rfl rfl ?_
    refine st_go hK rfl rfl ?_
    have hlt : lastK (σ (t + 5)) k s < 8 := by
      rcases Nat.eq_zero_or_pos s with q | q
      · subst q; exact (by decide : 0 < 8)
      · have := lastK_lt (f := σ (t + 5)) (k := k) q
        omega
    have := loop2 (lastK (σ (t + 5)) k s) (lastK (σ (t + 5)) k s) (by omega) (Nat.le_refl _) hlt kk
    rw [shF_self, row_self] at this
    exact this
  have loop : ∀ m i, s < i + m → i ≤ s → K 4 [some (.ref t), some (.int k), some (.int (nI (lastK (σ (t + 5)) k i))), some (.int (nI i))] [] (cw_B σ lam) := by
    intro m
    induction m with
    | zero => intro i hi h7; omega
    | succ m ih =>
      intro i hi h7
      refine st_go hK rfl rfl ?_
      refine st_go hK rfl rfl ?_
      refine st_geti hK rfl (Tree_f8 ht) ?_
      rw [hs]
      refine st_if hK rfl rfl (fun c9 => ?_) (fun c9 => ?_)
      · have e : i = s := by
          first
            | (have c9 : nI s ≤ nI i := c9; rw [nI_leI (by omega) (by omega)] at c9; omega)
            | (have := yle (a := 8) (i := i) (by decide) (by omega) c15; omega)
        subst e
        exact mid _ rfl
      · refine st_go hK rfl rfl ?_
        refine st_go hK rfl rfl ?_
        refine st_if hK rfl rfl (fun c15 => ?_) (fun c15 => ?_)
        · have e : i = s := by
            first
              | (have c9 : nI s ≤ nI i := c9; rw [nI_leI (by omega) (by omega)] at c9; omega)
              | (have := yle (a := 8) (i := i) (by decide) (by omega) c15; omega)
          subst e
          exact mid _ rfl
        · refine st_go hK rfl rfl ?_
          refine st_getr hK rfl (Tree_f4 ht) ?_
          refine st_go hK rfl rfl ?_
          refine st_iald hK rfl (Tree_a4 ht) (cw_in_nI (n := 8) (nle (a := 8) (i := i) (by decide) (by omega) c15) (by decide)) ?_
          refine st_go hK rfl rfl ?_
          refine st_if hK rfl rfl (fun c25 => ?_) (fun c25 => ?_)
          · refine st_go hK rfl rfl ?_
            refine st_go hK rfl rfl ?_
            have c9 : ¬ nI s ≤ nI i := c9
            rw [nI_leI (by omega) (by omega)] at c9
            rw [nI_clamp (by omega)] at c25
            have := ih (i + 1) (by omega) (by omega)
            unfold lastK at this
            first
              | (rw [if_pos (Classical.not_not.mp c25), ← nI_1] at this; exact this)
              | (rw [if_neg c25, ← nI_1] at this; exact this)
          · refine st_go hK rfl rfl ?_
            refine st_go hK rfl rfl ?_
            refine st_go hK rfl rfl ?_
            refine st_go hK rfl rfl ?_
            have c9 : ¬ nI s ≤ nI i := c9
            rw [nI_leI (by omega) (by omega)] at c9
            rw [nI_clamp (by omega)] at c25
            have := ih (i + 1) (by omega) (by omega)
            unfold lastK at this
            first
              | (rw [if_pos (Classical.not_not.mp c25), ← nI_1] at this; exact this)
              | (rw [if_neg c25, ← nI_1] at this; exact this)
  refine st_go hK rfl rfl ?_
  refine st_go hK rfl rfl ?_
  refine st_go hK rfl rfl ?_
  refine st_go hK rfl rfl ?_
  exact loop (s + 1) 0 (by omega) (by omega)
end
