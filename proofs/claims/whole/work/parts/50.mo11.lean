/-! THE MODEL: points, touches, states that are kept -/
section
variable {d s : Nat} {σ τ : cw_V} {lam : Nat → Int64} {Q : cw_Q}
theorem z_misAt {x y : Int32} (hs : σ 146 1 = nI s) (h8 : s ≤ 8) (kk : Q (some (.int (ff (atP (mv σ) 1 x y) s 0))) (cw_B σ lam)) : cw_Z (d + 1) m_Mo_isAt [.ref 146, .int x, .int y] (cw_B σ lam) Q := by
  refine zi (L := [some (.ref 146), some (.int x), some (.int y), none]) rfl rfl (fun K hK => ?_)
  have loop : ∀ m i, i + m = s → ff (atP (mv σ) 1 x y) m i = ff (atP (mv σ) 1 x y) s 0 → K 2 [some (.ref 146), some (.int x), some (.int y), some (.int (nI i))] [] (cw_B σ lam) := by
    intro m
    induction m with
    | zero =>
      intro i hi e
      obtain rfl : i = s := by omega
      refine st_go hK rfl rfl ?_
      refine st_go hK rfl rfl ?_
      refine gi (v := nI i) hK rfl qf_146_1 hs ?_
      refine st_ifn hK rfl rfl (nI_leI (a := i) (b := i) (by omega) (by omega)) (fun _ => ?_) (fun c => absurd (by omega) c)
      refine st_go hK rfl rfl ?_
      refine st_ret hK rfl rfl ?_
      rw [← e] at kk
      exact kk
    | succ m ih =>
      intro i hi e
      refine st_go hK rfl rfl ?_
      refine st_go hK rfl rfl ?_
      refine gi (v := nI s) hK rfl qf_146_1 hs ?_
      refine st_ifn hK rfl rfl (nI_leI (a := s) (b := i) (by omega) (by omega)) (fun c => absurd c (by omega)) (fun _ => ?_)
      refine st_go hK rfl rfl ?_
      refine st_getr hK rfl qf_146_2 ?_
      refine st_go hK rfl rfl ?_
      refine st_go hK rfl rfl ?_
      refine bnv hK rfl (show _ = nI (4 * i) from nI_mul 4 i) ?_
      refine ga (e := 4 * i) (v := σ 148 (4 * i)) hK rfl qa_148 rfl (by omega) rfl rfl ?_
      refine st_go hK rfl rfl ?_
      refine st_if hK rfl rfl (fun c19 => ?_) (fun c19 => ?_)
      · refine st_go hK rfl rfl ?_
        rw [nI_1]
        refine st_go hK rfl rfl ?_
        rw [ff_neg] at e
        · exact ih (i + 1) (by omega) e
        · unfold atP
          rw [Bool.and_eq_true, decide_eq_true_iff, decide_eq_true_iff]
          intro z
          first | exact c19 z.1 | exact c33 z.2
      · refine st_go hK rfl rfl ?_
        refine st_getr hK rfl qf_146_2 ?_
        refine st_go hK rfl rfl ?_
        refine st_go hK rfl rfl ?_
        refine bnv hK rfl (show _ = nI (4 * i) from nI_mul 4 i) ?_
        refine st_go hK rfl rfl ?_
        refine bnv hK rfl (show _ = nI ((4 * i) + 1) from nI_add (4 * i) 1) ?_
        refine ga (e := (4 * i) + 1) (v := σ 148 ((4 * i) + 1)) hK rfl qa_148 rfl (by omega) rfl rfl ?_
        refine st_go hK rfl rfl ?_
        refine st_if hK rfl rfl (fun c33 => ?_) (fun c33 => ?_)
        · refine st_go hK rfl rfl ?_
          rw [nI_1]
          refine st_go hK rfl rfl ?_
          rw [ff_neg] at e
          · exact ih (i + 1) (by omega) e
          · unfold atP
            rw [Bool.and_eq_true, decide_eq_true_iff, decide_eq_true_iff]
            intro z
            first | exact c19 z.1 | exact c33 z.2
        · refine st_go hK rfl rfl ?_
          refine st_ret hK rfl rfl ?_
          rw [ff_pos] at e
          · rw [← e] at kk
            exact kk
          · unfold atP
            rw [Bool.and_eq_true, decide_eq_true_iff, decide_eq_true_iff]
            exact ⟨Decidable.not_not.mp c19, Decidable.not_not.mp c33⟩
  refine st_go hK rfl rfl ?_
  refine st_go hK rfl rfl ?_
  exact loop s 0 (by omega) rfl
theorem z_touches {k : Int32} {n a : Nat} (h6 : σ 146 6 = nI n) (hn : n ≤ 8) (ha : a ≤ n) (ha8 : a < 8) (h1 : ∀ i, i < a → σ 149 i ≠ k) (h2 : a < n → σ 149 a = k) (kk : Q none (cw_B (rowF (cw_up σ 146 6 (nI (if a = n then n + 1 else n))) 149 (tchF (σ 149) a k)) lam)) : cw_Z (d + 1) m_Mo_touches [.ref 146, .int k] (cw_B σ lam) Q := by
  refine zi (L := [some (.ref 146), some (.int k), none, none]) rfl rfl (fun K hK => ?_)
  have loop2 : ∀ i, i ≤ a → K 50 [some (.ref 146), some (.int k), some (.int (nI a)), some (.int (nI i))] [] (cw_B (rowF (cw_up σ 146 6 (nI (if a = n then n + 1 else n))) 149 (shF (σ 149) a i)) lam) := by
    intro i
    induction i with
    | zero =>
      intro hi
      refine st_go hK rfl rfl ?_
      refine st_ifn hK rfl rfl (nI_leI (a := 0) (b := 0) (by omega) (by omega)) (fun _ => ?_) (fun c => absurd (by omega) c)
      refine st_go hK rfl rfl ?_
      refine st_getr hK rfl qf_146_7 ?_
      refine st_go hK rfl rfl ?_
      refine st_go hK rfl rfl ?_
      refine sa (e := 0) hK rfl qa_149 rfl (by decide) rfl ?_
      refine st_ret hK rfl rfl ?_
      rw [up_row]
      exact kk
    | succ i ih =>
      intro hi
      refine st_go hK rfl rfl ?_
      refine st_ifn hK rfl rfl (nI_leI (a := i + 1) (b := 0) (by omega) (by omega)) (fun c => absurd c (by omega)) (fun _ => ?_)
      refine st_go hK rfl rfl ?_
      refine st_getr hK rfl qf_146_7 ?_
      refine st_go hK rfl rfl ?_
      refine st_go hK rfl rfl ?_
      refine st_getr hK rfl qf_146_7 ?_
      refine st_go hK rfl rfl ?_
      refine st_go hK rfl rfl ?_
      refine bnv hK rfl (show _ = nI i from nI_pred _) ?_
      refine ga (e := i) (v := (rowF (cw_up σ 146 6 (nI (if a = n then n + 1 else n))) 149 (shF (σ 149) a (i + 1))) 149 i) hK rfl qa_149 rfl (by omega) rfl rfl ?_
      refine sa (e := i + 1) hK rfl qa_149 rfl (by omega) rfl ?_
      refine st_go hK rfl rfl ?_
      rw [nI_dec]
      refine st_go hK rfl rfl ?_
      rw [row_eq, up_row, shF_s (by omega)]
      exact ih (by omega)
  have at26 : K 26 [some (.ref 146), some (.int k), some (.int (nI a)), none] [] (cw_B σ lam) := by
    have fin := loop2 a (Nat.le_refl a)
    rw [shF_self, show rowF (cw_up σ 146 6 (nI (if a = n then n + 1 else n))) 149 (σ 149) = cw_up σ 146 6 (nI (if a = n then n + 1 else n)) from row_self (σ := cw_up σ 146 6 (nI (if a = n then n + 1 else n))) (p := 149)] at fin
    by_cases e : a = n
    · rw [if_pos e] at fin
      refine st_go hK rfl rfl ?_
      refine st_go hK rfl rfl ?_
      refine gi (v := nI n) hK rfl qf_146_6 h6 ?_
      refine st_go hK rfl rfl ?_
      refine st_go hK rfl rfl ?_
      refine gi (v := nI n) hK rfl qf_146_6 h6 ?_
      refine st_ifn hK rfl rfl (not_congr (nI_eq (a := a) (b := n) (by omega) (by omega))) (fun c => absurd c (fun z => z e)) (fun _ => ?_)
      refine st_go hK rfl rfl ?_
      refine st_go hK rfl rfl ?_
      refine bnv hK rfl (show _ = nI (n + 1) from nI_add n 1) ?_
      refine st_put hK rfl qf_146_6 rfl ?_
      refine st_go hK rfl rfl ?_
      refine st_go hK rfl rfl ?_
      change K _ [some (.ref 146), some (.int k), some (.int (nI a)), some (.int (nI a))] _ _
      exact fin
    · rw [if_neg e] at fin
      refine st_go hK rfl rfl ?_
      refine st_go hK rfl rfl ?_
      refine gi (v := nI n) hK rfl qf_146_6 h6 ?_
      refine st_go hK rfl rfl ?_
      refine st_go hK rfl rfl ?_
      refine gi (v := nI n) hK rfl qf_146_6 h6 ?_
      refine st_ifn hK rfl rfl (not_congr (nI_eq (a := a) (b := n) (by omega) (by omega))) (fun _ => ?_) (fun c => absurd e c)
      refine st_go hK rfl rfl ?_
      refine bnv hK rfl (show _ = nI (n + 0) from nI_add n 0) ?_
      refine st_put hK rfl qf_146_6 rfl ?_
      refine st_go hK rfl rfl ?_
      refine st_go hK rfl rfl ?_
      change K _ [some (.ref 146), some (.int k), some (.int (nI a)), some (.int (nI a))] _ _
      exact fin
  have loop1 : ∀ m i, i + m = a → K 2 [some (.ref 146), some (.int k), some (.int (nI i)), none] [] (cw_B σ lam) := by
    intro m
    induction m with
    | zero =>
      intro i hi
      obtain rfl : i = a := by omega
      by_cases e : i < n
      · have q := h2 e
        refine st_go hK rfl rfl ?_
        refine st_go hK rfl rfl ?_
        refine gi (v := nI n) hK rfl qf_146_6 h6 ?_
        refine st_ifn hK rfl rfl (nI_leI (a := n) (b := i) (by omega) (by omega)) (fun c => absurd c (by omega)) (fun _ => ?_)
        refine st_go hK rfl rfl ?_
        refine st_getr hK rfl qf_146_7 ?_
        refine st_go hK rfl rfl ?_
        refine ga (e := i) (v := σ 149 i) hK rfl qa_149 rfl (by omega) rfl rfl ?_
        refine st_go hK rfl rfl ?_
        refine st_if hK rfl rfl (fun _ => ?_) (fun c => absurd q c)
        exact at26
      · skip
        refine st_go hK rfl rfl ?_
        refine st_go hK rfl rfl ?_
        refine gi (v := nI n) hK rfl qf_146_6 h6 ?_
        refine st_ifn hK rfl rfl (nI_leI (a := n) (b := i) (by omega) (by omega)) (fun _ => ?_) (fun c => absurd (by omega) c)
        exact at26
    | succ m ih =>
      intro i hi
      have q := h1 i (by omega)
      refine st_go hK rfl rfl ?_
      refine st_go hK rfl rfl ?_
      refine gi (v := nI n) hK rfl qf_146_6 h6 ?_
      refine st_ifn hK rfl rfl (nI_leI (a := n) (b := i) (by omega) (by omega)) (fun c => absurd c (by omega)) (fun _ => ?_)
      refine st_go hK rfl rfl ?_
      refine st_getr hK rfl qf_146_7 ?_
      refine st_go hK rfl rfl ?_
      refine ga (e := i) (v := σ 149 i) hK rfl qa_149 rfl (by omega) rfl rfl ?_
      refine st_go hK rfl rfl ?_
      refine st_if hK rfl rfl (fun c => absurd c q) (fun _ => ?_)
      refine st_go hK rfl rfl ?_
      rw [nI_1]
      refine st_go hK rfl rfl ?_
      exact ih (i + 1) (by omega)
  refine st_go hK rfl rfl ?_
  refine st_go hK rfl rfl ?_
  exact loop1 a 0 (by omega)
theorem z_apart {x y z w : Int32} {h : cw_H} (kk : Q (some (.int (mx (ab (x + y - z - w)) (ab (x - y - z + w)) * 65536))) h) : cw_Z (d + 2) m_Mo_apart [.int x, .int y, .int z, .int w] h Q := by
  refine zi (L := [some (.int x), some (.int y), some (.int z), some (.int w)]) rfl rfl (fun K hK => ?_)
  refine st_go hK rfl rfl ?_
  refine st_go hK rfl rfl ?_
  refine st_bin hK rfl ?_
  refine st_go hK rfl rfl ?_
  refine st_bin hK rfl ?_
  refine st_go hK rfl rfl ?_
  refine st_bin hK rfl ?_
  refine cs1 hK rfl (Nat.le_of_ble_eq_true rfl) ?_
  refine z_msize ?_
  change K _ _ (_ :: _) _
  refine st_go hK rfl rfl ?_
  refine st_go hK rfl rfl ?_
  refine st_bin hK rfl ?_
  refine st_go hK rfl rfl ?_
  refine st_bin hK rfl ?_
  refine st_go hK rfl rfl ?_
  refine st_bin hK rfl ?_
  refine cs1 hK rfl (Nat.le_of_ble_eq_true rfl) ?_
  refine z_msize ?_
  change K _ _ (_ :: _) _
  refine cs2 hK rfl (Nat.le_of_ble_eq_true rfl) ?_
  refine z_mgreater ?_
  change K _ _ (_ :: _) _
  refine st_go hK rfl rfl ?_
  refine st_bin hK rfl ?_
  refine st_ret hK rfl rfl ?_
  exact kk
/-- one row of the tree, in one number -/
def pkF (σ : cw_V) (x : Nat) : Int32 := σ 150 x + 2 * (σ 151 x + 1) + 64 * (σ 152 x + 1) + 2048 * (σ 153 x + 1)
/-- what is kept of a state -/
def kpF (σ : cw_V) (k : Nat) : Int32 := if k = 0 then σ 146 1 else if k = 1 then σ 146 3 else if k = 2 then σ 146 4 else if k = 3 then σ 146 5 else if k = 4 then σ 146 6 else if k < 13 then σ 149 (k - 5) else if k < 28 then pkF σ (k - 13) else σ 148 (k - 28)
theorem kp_l {i : Nat} (h : i < 8) : kpF σ (5 + i) = σ 149 i := by
  unfold kpF
  rw [if_neg (by omega), if_neg (by omega), if_neg (by omega), if_neg (by omega), if_neg (by omega), if_pos (by omega), Nat.add_sub_cancel_left]
theorem kp_p {i : Nat} (h : i < 15) : kpF σ (13 + i) = pkF σ i := by
  unfold kpF
  rw [if_neg (by omega), if_neg (by omega), if_neg (by omega), if_neg (by omega), if_neg (by omega), if_neg (by omega), if_pos (by omega), Nat.add_sub_cancel_left]
theorem kp_e {i : Nat} : kpF σ (28 + i) = σ 148 i := by
  unfold kpF
  rw [if_neg (by omega), if_neg (by omega), if_neg (by omega), if_neg (by omega), if_neg (by omega), if_neg (by omega), if_neg (by omega), Nat.add_sub_cancel_left]
def LVp (σ τ : cw_V) (c n : Nat) (g : Nat → Int32) : Prop := (∀ p, p ≠ 146 → p ≠ 155 → τ p = σ p) ∧ (∀ k, k ≠ 13 → τ 146 k = σ 146 k) ∧ τ 146 13 = nI c ∧ (∀ j, j < 88 * c → τ 155 j = g j) ∧ ∀ k, k < n → τ 155 (88 * c + k) = kpF σ k
theorem LVp.step {c n e : Nat} {g : Nat → Int32} {x : Int32} (h : LVp σ τ c n g) (he : e = 88 * c + n) (hx : x = kpF σ n) : LVp σ (cw_up τ 155 e x) c (n + 1) g := by
  obtain ⟨h1, h2, h3, h4, h5⟩ := h
  subst he
  refine ⟨fun p p1 p2 => by rw [up_ne p2, h1 p p1 p2], fun k hk => by rw [up_ne (by decide), h2 k hk], by rw [up_ne (by decide), h3], fun j hj => by rw [up_eq, upd_ne (by omega), h4 j hj], fun k hk => ?_⟩
  rw [up_eq]
  by_cases z : k = n
  · subst z
    rw [upd_eq, hx]
  · rw [upd_ne (by omega), h5 k (by omega)]
/-- a state is kept: the c-th; of eight the first is lost -/
def LV (σ τ : cw_V) (c : Nat) : Prop := (∀ p, p ≠ 146 → p ≠ 155 → τ p = σ p) ∧ (∀ k, k ≠ 13 → τ 146 k = σ 146 k) ∧ τ 146 13 = nI (if c = 8 then 8 else c + 1) ∧ (∀ j, j < 88 * (if c = 8 then 7 else c) → τ 155 j = σ 155 (if c = 8 then j + 88 else j)) ∧ ∀ k, k < 60 → τ 155 (88 * (if c = 8 then 7 else c) + k) = kpF σ k
theorem z_leaves {c : Nat} (h13 : σ 146 13 = nI c) (hc : c ≤ 8) (kk : ∀ τ, LV σ τ c → Q none (cw_B τ lam)) : cw_Z (d + 1) m_Mo_leavesState [.ref 146] (cw_B σ lam) Q := by
  refine zi (L := [some (.ref 146), none, none]) rfl rfl (fun K hK => ?_)
  have tail : ∀ (c' : Nat) (g : Nat → Int32) τ (x : Option Value), c' ≤ 7 → (∀ υ, LVp σ υ c' 60 g → Q none (cw_B (cw_up υ 146 13 (nI (c' + 1))) lam)) → LVp σ τ c' 0 g → K 49 [some (.ref 146), x, none] [] (cw_B τ lam) := by
    intro c' g τ x hc' fin h
    have loop3 : ∀ m i τ, i + m = 32 → LVp σ τ c' (28 + i) g → K 214 [some (.ref 146), some (.int (nI (88 * c'))), some (.int (nI i))] [] (cw_B τ lam) := by
      intro m
      induction m with
      | zero =>
        intro i τ hi h
        obtain rfl : i = 32 := by omega
        refine st_go hK rfl rfl ?_
        refine st_go hK rfl rfl ?_
        refine st_ifn hK rfl rfl (nI_leI (a := 32) (b := 32) (by omega) (by omega)) (fun _ => ?_) (fun c => absurd (by omega) c)
        refine st_go hK rfl rfl ?_
        refine st_go hK rfl rfl ?_
        refine gi (v := nI c') hK rfl qf_146_13 h.2.2.1 ?_
        refine st_go hK rfl rfl ?_
        refine bnv hK rfl (show _ = nI (c' + 1) from nI_add c' 1) ?_
        refine st_put hK rfl qf_146_13 rfl ?_
        refine st_ret hK rfl rfl ?_
        exact fin τ h
      | succ m ih =>
        intro i τ hi h
        refine st_go hK rfl rfl ?_
        refine st_go hK rfl rfl ?_
        refine st_ifn hK rfl rfl (nI_leI (a := 32) (b := i) (by omega) (by omega)) (fun c => absurd c (by omega)) (fun _ => ?_)
        refine st_go hK rfl rfl ?_
        refine st_getr hK rfl qf_146_14 ?_
        refine st_go hK rfl rfl ?_
        refine st_go hK rfl rfl ?_
        refine bnv hK rfl (show _ = nI ((88 * c') + 28) from nI_add (88 * c') 28) ?_
        refine st_go hK rfl rfl ?_
        refine bnv hK rfl (show _ = nI (((88 * c') + 28) + i) from nI_add ((88 * c') + 28) i) ?_
        refine st_go hK rfl rfl ?_
        refine st_getr hK rfl qf_146_2 ?_
        refine st_go hK rfl rfl ?_
        refine ga (e := i) (v := σ 148 i) hK rfl qa_148 rfl (by omega) rfl (congrFun (h.1 148 (by decide) (by decide)) _) ?_
        refine sa (e := ((88 * c') + 28) + i) hK rfl qa_155 rfl (by omega) rfl ?_
        refine st_go hK rfl rfl ?_
        rw [nI_1]
        refine st_go hK rfl rfl ?_
        exact ih (i + 1) _ (by omega) (h.step (n := 28 + i) (by omega) kp_e.symm)
    have loop2 : ∀ m i τ, i + m = 15 → LVp σ τ c' (13 + i) g → K 147 [some (.ref 146), some (.int (nI (88 * c'))), some (.int (nI i))] [] (cw_B τ lam) := by
      intro m
      induction m with
      | zero =>
        intro i τ hi h
        obtain rfl : i = 15 := by omega
        refine st_go hK rfl rfl ?_
        refine st_go hK rfl rfl ?_
        refine st_ifn hK rfl rfl (nI_leI (a := 15) (b := 15) (by omega) (by omega)) (fun _ => ?_) (fun c => absurd (by omega) c)
        refine st_go hK rfl rfl ?_
        refine st_go hK rfl rfl ?_
        change K _ [some (.ref 146), some (.int (nI (88 * c'))), some (.int (0 : Int32))] _ _
        exact loop3 32 0 τ (by omega) h
      | succ m ih =>
        intro i τ hi h
        refine st_go hK rfl rfl ?_
        refine st_go hK rfl rfl ?_
        refine st_ifn hK rfl rfl (nI_leI (a := 15) (b := i) (by omega) (by omega)) (fun c => absurd c (by omega)) (fun _ => ?_)
        refine st_go hK rfl rfl ?_
        refine st_getr hK rfl qf_146_14 ?_
        refine st_go hK rfl rfl ?_
        refine st_go hK rfl rfl ?_
        refine bnv hK rfl (show _ = nI ((88 * c') + 13) from nI_add (88 * c') 13) ?_
        refine st_go hK rfl rfl ?_
        refine bnv hK rfl (show _ = nI (((88 * c') + 13) + i) from nI_add ((88 * c') + 13) i) ?_
        refine st_go hK rfl rfl ?_
        refine st_getr hK rfl qf_146_8 ?_
        refine st_go hK rfl rfl ?_
        refine ga (e := i) (v := σ 150 i) hK rfl qa_150 rfl (by omega) rfl (congrFun (h.1 150 (by decide) (by decide)) _) ?_
        refine st_go hK rfl rfl ?_
        refine st_go hK rfl rfl ?_
        refine st_getr hK rfl qf_146_9 ?_
        refine st_go hK rfl rfl ?_
        refine ga (e := i) (v := σ 151 i) hK rfl qa_151 rfl (by omega) rfl (congrFun (h.1 151 (by decide) (by decide)) _) ?_
        refine st_go hK rfl rfl ?_
        refine st_bin hK rfl ?_
        refine st_bin hK rfl ?_
        refine st_bin hK rfl ?_
        refine st_go hK rfl rfl ?_
        refine st_go hK rfl rfl ?_
        refine st_getr hK rfl qf_146_10 ?_
        refine st_go hK rfl rfl ?_
        refine ga (e := i) (v := σ 152 i) hK rfl qa_152 rfl (by omega) rfl (congrFun (h.1 152 (by decide) (by decide)) _) ?_
        refine st_go hK rfl rfl ?_
        refine st_bin hK rfl ?_
        refine st_bin hK rfl ?_
        refine st_bin hK rfl ?_
        refine st_go hK rfl rfl ?_
        refine st_go hK rfl rfl ?_
        refine st_getr hK rfl qf_146_11 ?_
        refine st_go hK rfl rfl ?_
        refine ga (e := i) (v := σ 153 i) hK rfl qa_153 rfl (by omega) rfl (congrFun (h.1 153 (by decide) (by decide)) _) ?_
        refine st_go hK rfl rfl ?_
        refine st_bin hK rfl ?_
        refine st_bin hK rfl ?_
        refine st_bin hK rfl ?_
        refine sa (e := ((88 * c') + 13) + i) hK rfl qa_155 rfl (by omega) rfl ?_
        refine st_go hK rfl rfl ?_
        rw [nI_1]
        refine st_go hK rfl rfl ?_
        exact ih (i + 1) _ (by omega) (h.step (n := 13 + i) (by omega) (kp_p (by omega)).symm)
    have loop1 : ∀ m i τ, i + m = 8 → LVp σ τ c' (5 + i) g → K 117 [some (.ref 146), some (.int (nI (88 * c'))), some (.int (nI i))] [] (cw_B τ lam) := by
      intro m
      induction m with
      | zero =>
        intro i τ hi h
        obtain rfl : i = 8 := by omega
        refine st_go hK rfl rfl ?_
        refine st_go hK rfl rfl ?_
        refine st_ifn hK rfl rfl (nI_leI (a := 8) (b := 8) (by omega) (by omega)) (fun _ => ?_) (fun c => absurd (by omega) c)
        refine st_go hK rfl rfl ?_
        refine st_go hK rfl rfl ?_
        change K _ [some (.ref 146), some (.int (nI (88 * c'))), some (.int (0 : Int32))] _ _
        exact loop2 15 0 τ (by omega) h
      | succ m ih =>
        intro i τ hi h
        refine st_go hK rfl rfl ?_
        refine st_go hK rfl rfl ?_
        refine st_ifn hK rfl rfl (nI_leI (a := 8) (b := i) (by omega) (by omega)) (fun c => absurd c (by omega)) (fun _ => ?_)
        refine st_go hK rfl rfl ?_
        refine st_getr hK rfl qf_146_14 ?_
        refine st_go hK rfl rfl ?_
        refine st_go hK rfl rfl ?_
        refine bnv hK rfl (show _ = nI ((88 * c') + 5) from nI_add (88 * c') 5) ?_
        refine st_go hK rfl rfl ?_
        refine bnv hK rfl (show _ = nI (((88 * c') + 5) + i) from nI_add ((88 * c') + 5) i) ?_
        refine st_go hK rfl rfl ?_
        refine st_getr hK rfl qf_146_7 ?_
        refine st_go hK rfl rfl ?_
        refine ga (e := i) (v := σ 149 i) hK rfl qa_149 rfl (by omega) rfl (congrFun (h.1 149 (by decide) (by decide)) _) ?_
        refine sa (e := ((88 * c') + 5) + i) hK rfl qa_155 rfl (by omega) rfl ?_
        refine st_go hK rfl rfl ?_
        rw [nI_1]
        refine st_go hK rfl rfl ?_
        exact ih (i + 1) _ (by omega) (h.step (n := 5 + i) (by omega) (kp_l (by omega)).symm)
    refine st_go hK rfl rfl ?_
    refine st_go hK rfl rfl ?_
    refine gi (v := nI c') hK rfl qf_146_13 h.2.2.1 ?_
    refine bnv hK rfl (show _ = nI (88 * c') from nI_mul 88 c') ?_
    refine st_go hK rfl rfl ?_
    change K _ [some (.ref 146), some (.int (nI (88 * c'))), _] _ _
    refine st_go hK rfl rfl ?_
    refine st_getr hK rfl qf_146_14 ?_
    refine st_go hK rfl rfl ?_
    refine st_go hK rfl rfl ?_
    refine gi (v := σ 146 1) hK rfl qf_146_1 (h.2.1 1 (by decide)) ?_
    refine sa (e := 88 * c') hK rfl qa_155 rfl (by omega) rfl ?_
    refine st_go hK rfl rfl ?_
    refine st_getr hK rfl qf_146_14 ?_
    refine st_go hK rfl rfl ?_
    refine st_go hK rfl rfl ?_
    refine bnv hK rfl (show _ = nI ((88 * c') + 1) from nI_add (88 * c') 1) ?_
    refine st_go hK rfl rfl ?_
    refine gi (v := σ 146 3) hK rfl qf_146_3 (by rw [up_ne (by decide), (h.2.1 3 (by decide))]) ?_
    refine sa (e := (88 * c') + 1) hK rfl qa_155 rfl (by omega) rfl ?_
    refine st_go hK rfl rfl ?_
    refine st_getr hK rfl qf_146_14 ?_
    refine st_go hK rfl rfl ?_
    refine st_go hK rfl rfl ?_
    refine bnv hK rfl (show _ = nI ((88 * c') + 2) from nI_add (88 * c') 2) ?_
    refine st_go hK rfl rfl ?_
    refine gi (v := σ 146 4) hK rfl qf_146_4 (by rw [up_ne (by decide), up_ne (by decide), (h.2.1 4 (by decide))]) ?_
    refine sa (e := (88 * c') + 2) hK rfl qa_155 rfl (by omega) rfl ?_
    refine st_go hK rfl rfl ?_
    refine st_getr hK rfl qf_146_14 ?_
    refine st_go hK rfl rfl ?_
    refine st_go hK rfl rfl ?_
    refine bnv hK rfl (show _ = nI ((88 * c') + 3) from nI_add (88 * c') 3) ?_
    refine st_go hK rfl rfl ?_
    refine gi (v := σ 146 5) hK rfl qf_146_5 (by rw [up_ne (by decide), up_ne (by decide), up_ne (by decide), (h.2.1 5 (by decide))]) ?_
    refine sa (e := (88 * c') + 3) hK rfl qa_155 rfl (by omega) rfl ?_
    refine st_go hK rfl rfl ?_
    refine st_getr hK rfl qf_146_14 ?_
    refine st_go hK rfl rfl ?_
    refine st_go hK rfl rfl ?_
    refine bnv hK rfl (show _ = nI ((88 * c') + 4) from nI_add (88 * c') 4) ?_
    refine st_go hK rfl rfl ?_
    refine gi (v := σ 146 6) hK rfl qf_146_6 (by rw [up_ne (by decide), up_ne (by decide), up_ne (by decide), up_ne (by decide), (h.2.1 6 (by decide))]) ?_
    refine sa (e := (88 * c') + 4) hK rfl qa_155 rfl (by omega) rfl ?_
    refine st_go hK rfl rfl ?_
    refine st_go hK rfl rfl ?_
    change K _ [some (.ref 146), some (.int (nI (88 * c'))), some (.int (0 : Int32))] _ _
    exact loop1 8 0 _ (by omega) (((((h.step (n := 0) rfl rfl).step (n := 1) rfl rfl).step (n := 2) rfl rfl).step (n := 3) rfl rfl).step (n := 4) rfl rfl)
  by_cases e8 : c = 8
  · subst e8
    have loop0 : ∀ m i τ, i + m = 616 → (∀ p, p ≠ 155 → τ p = σ p) → (∀ j, j < i → τ 155 j = σ 155 (j + 88)) → (∀ j, i ≤ j → τ 155 j = σ 155 j) → K 11 [some (.ref 146), some (.int (nI i)), none] [] (cw_B τ lam) := by
      intro m
      induction m with
      | zero =>
        intro i τ hi q0 q1 q2
        obtain rfl : i = 616 := by omega
        have e13 : τ 146 13 = nI (7 + 1) := (congrFun (q0 146 (by decide)) 13).trans h13
        refine st_go hK rfl rfl ?_
        refine st_go hK rfl rfl ?_
        refine st_ifn hK rfl rfl (nI_leI (a := 616) (b := 616) (by omega) (by omega)) (fun _ => ?_) (fun c => absurd (by omega) c)
        refine st_go hK rfl rfl ?_
        refine st_go hK rfl rfl ?_
        refine gi (v := nI (7 + 1)) hK rfl qf_146_13 e13 ?_
        refine st_go hK rfl rfl ?_
        refine bnv hK rfl (show _ = nI 7 from nI_pred _) ?_
        refine st_put hK rfl qf_146_13 rfl ?_
        refine tail 7 (fun j => σ 155 (j + 88)) _ _ (by omega) (fun υ hυ => ?_) ⟨fun p p1 p2 => by rw [up_ne p1, q0 p p2], fun k hk => by rw [up_eq, upd_ne hk, q0 146 (by decide)], by rw [up_eq, upd_eq], fun j hj => by rw [up_ne (by decide), q1 j hj], fun k hk => by omega⟩
        obtain ⟨r1, r2, r3, r4, r5⟩ := hυ
        exact kk _ ⟨fun p p1 p2 => by rw [up_ne p1, r1 p p1 p2], fun k hk => by rw [up_eq, upd_ne hk, r2 k hk], by rw [up_eq, upd_eq]; rfl, fun j hj => by rw [up_ne (by decide)]; exact r4 j hj, fun k hk => by rw [up_ne (by decide)]; exact r5 k hk⟩
      | succ m ih =>
        intro i τ hi q0 q1 q2
        have e1 := q2 (i + 88) (by omega)
        refine st_go hK rfl rfl ?_
        refine st_go hK rfl rfl ?_
        refine st_ifn hK rfl rfl (nI_leI (a := 616) (b := i) (by omega) (by omega)) (fun c => absurd c (by omega)) (fun _ => ?_)
        refine st_go hK rfl rfl ?_
        refine st_getr hK rfl qf_146_14 ?_
        refine st_go hK rfl rfl ?_
        refine st_go hK rfl rfl ?_
        refine st_getr hK rfl qf_146_14 ?_
        refine st_go hK rfl rfl ?_
        refine st_go hK rfl rfl ?_
        refine bnv hK rfl (show _ = nI (i + 88) from nI_add i 88) ?_
        refine ga (e := i + 88) (v := σ 155 (i + 88)) hK rfl qa_155 rfl (by omega) rfl e1 ?_
        refine sa (e := i) hK rfl qa_155 rfl (by omega) rfl ?_
        refine st_go hK rfl rfl ?_
        rw [nI_1]
        refine st_go hK rfl rfl ?_
        refine ih (i + 1) _ (by omega) (fun p hp => by rw [up_ne hp, q0 p hp]) (fun j hj => ?_) (fun j hj => by rw [up_eq, upd_ne (by omega), q2 j (by omega)])
        rw [up_eq]
        by_cases z : j = i
        · subst z
          rw [upd_eq]
        · rw [upd_ne z, q1 j (by omega)]
    refine st_go hK rfl rfl ?_
    refine gi (v := nI 8) hK rfl qf_146_13 h13 ?_
    refine st_go hK rfl rfl ?_
    refine st_ifn hK rfl rfl (not_congr (nI_eq (a := 8) (b := 8) (by omega) (by omega))) (fun c => absurd c (fun z => z rfl)) (fun _ => ?_)
    refine st_go hK rfl rfl ?_
    refine st_go hK rfl rfl ?_
    change K _ [some (.ref 146), some (.int (0 : Int32)), _] _ _
    exact loop0 616 0 σ (by omega) (fun _ _ => rfl) (fun j hj => by omega) (fun _ _ => rfl)
  · skip
    refine st_go hK rfl rfl ?_
    refine gi (v := nI c) hK rfl qf_146_13 h13 ?_
    refine st_go hK rfl rfl ?_
    refine st_ifn hK rfl rfl (not_congr (nI_eq (a := c) (b := 8) (by omega) (by omega))) (fun _ => ?_) (fun c => absurd e8 c)
    refine tail c (fun j => σ 155 j) σ none (by omega) (fun υ hυ => ?_) ⟨fun _ _ _ => rfl, fun _ _ => rfl, h13, fun _ _ => rfl, fun k hk => by omega⟩
    obtain ⟨r1, r2, r3, r4, r5⟩ := hυ
    exact kk _ ⟨fun p p1 p2 => by rw [up_ne p1, r1 p p1 p2], fun k hk => by rw [up_eq, upd_ne hk, r2 k hk], by rw [up_eq, upd_eq, if_neg e8], fun j hj => by rw [if_neg e8] at hj ⊢; rw [up_ne (by decide)]; exact r4 j hj, fun k hk => by rw [if_neg e8, up_ne (by decide)]; exact r5 k hk⟩
def BKp (σ τ : cw_V) (c n : Nat) (A B E D : Nat → Nat) : Prop := (∀ p, p ≠ 146 → p ≠ 148 → (p < 149 ∨ 153 < p) → τ p = σ p) ∧ ((∀ k, k ≠ 1 → (k < 3 ∨ 6 < k) → k ≠ 13 → τ 146 k = σ 146 k) ∧ τ 146 1 = σ 155 (88 * c) ∧ τ 146 3 = σ 155 (88 * c + 1) ∧ τ 146 4 = σ 155 (88 * c + 2) ∧ τ 146 5 = σ 155 (88 * c + 3) ∧ τ 146 6 = σ 155 (88 * c + 4) ∧ τ 146 13 = nI c) ∧ (∀ k, k < 8 → 5 + k < n → τ 149 k = σ 155 (88 * c + 5 + k)) ∧ (∀ x, x < 15 → 13 + x < n → τ 150 x = nI (D x) ∧ τ 151 x = nI (A x) - 1 ∧ τ 152 x = nI (B x) - 1 ∧ τ 153 x = nI (E x) - 1) ∧ ∀ k, k < 32 → 28 + k < n → τ 148 k = σ 155 (88 * c + 28 + k)
theorem z_mback0 (h13 : σ 146 13 = nI 0) (kk : Q (some (.int (-3))) (cw_B (cw_up σ 147 1 (σ 147 1 + 1)) lam)) : cw_Z (d + 2) m_Mo_back [.ref 146] (cw_B σ lam) Q := by
  refine zi (L := [some (.ref 146), none, none, none]) rfl rfl (fun K hK => ?_)
  refine st_go hK rfl rfl ?_
  refine gi (v := nI 0) hK rfl qf_146_13 h13 ?_
  refine st_ifn hK rfl rfl (not_congr (nI_eq (a := 0) (b := 0) (by omega) (by omega))) (fun c => absurd c (fun z => z rfl)) (fun _ => ?_)
  refine st_go hK rfl rfl ?_
  refine cv0 hK rfl qc_146 (Nat.le_of_ble_eq_true rfl) ?_
  refine z_mno ?_
  change K _ _ (_ :: _) _
  refine st_ret hK rfl rfl ?_
  exact kk
theorem z_mback {c : Nat} {A B E D : Nat → Nat} (h13 : σ 146 13 = nI (c + 1)) (hc : c < 8) (hv : ∀ x, x < 15 → D x < 2 ∧ A x < 32 ∧ B x < 32 ∧ E x < 32 ∧ σ 155 (88 * c + 13 + x) = nI (D x + 2 * A x + 64 * B x + 2048 * E x)) (kk : ∀ τ, BKp σ τ c 60 A B E D → Q (some (.int (nI c))) (cw_B τ lam)) : cw_Z (d + 2) m_Mo_back [.ref 146] (cw_B σ lam) Q := by
  refine zi (L := [some (.ref 146), none, none, none]) rfl rfl (fun K hK => ?_)
  have loop3 : ∀ m i τ (x : Option Value), i + m = 32 → BKp σ τ c (28 + i) A B E D → K 197 [some (.ref 146), some (.int (nI (88 * c))), some (.int (nI i)), x] [] (cw_B τ lam) := by
    intro m
    induction m with
    | zero =>
      intro i τ x hi h
      obtain rfl : i = 32 := by omega
      have e13 := h.2.1.2.2.2.2.2.2
      refine st_go hK rfl rfl ?_
      refine st_go hK rfl rfl ?_
      refine st_ifn hK rfl rfl (nI_leI (a := 32) (b := 32) (by omega) (by omega)) (fun _ => ?_) (fun c => absurd (by omega) c)
      refine st_go hK rfl rfl ?_
      refine gi (v := nI c) hK rfl qf_146_13 e13 ?_
      refine st_ret hK rfl rfl ?_
      exact kk τ h
    | succ m ih =>
      intro i τ x hi h
      have e155 := congrFun (h.1 155 (by omega) (by omega) (by omega)) (88 * c + 28 + i)
      refine st_go hK rfl rfl ?_
      refine st_go hK rfl rfl ?_
      refine st_ifn hK rfl rfl (nI_leI (a := 32) (b := i) (by omega) (by omega)) (fun c => absurd c (by omega)) (fun _ => ?_)
      refine st_go hK rfl rfl ?_
      refine st_getr hK rfl qf_146_2 ?_
      refine st_go hK rfl rfl ?_
      refine st_go hK rfl rfl ?_
      refine st_getr hK rfl qf_146_14 ?_
      refine st_go hK rfl rfl ?_
      refine st_go hK rfl rfl ?_
      refine bnv hK rfl (show _ = nI ((88 * c) + 28) from nI_add (88 * c) 28) ?_
      refine st_go hK rfl rfl ?_
      refine bnv hK rfl (show _ = nI (((88 * c) + 28) + i) from nI_add ((88 * c) + 28) i) ?_
      refine ga (e := ((88 * c) + 28) + i) (v := σ 155 (88 * c + 28 + i)) hK rfl qa_155 rfl (by omega) rfl e155 ?_
      refine sa (e := i) hK rfl qa_148 rfl (by omega) rfl ?_
      refine st_go hK rfl rfl ?_
      rw [nI_1]
      refine st_go hK rfl rfl ?_
      refine ih (i + 1) _ _ (by omega) ?_
      obtain ⟨r1, r2, r3, r4, r5⟩ := h
      refine ⟨fun p p1 p2 p3 => by rw [up_ne p2, r1 p p1 p2 p3], ⟨fun k k1 k2 k3 => by rw [up_ne (by decide), r2.1 k k1 k2 k3], by rw [up_ne (by decide), r2.2.1], by rw [up_ne (by decide), r2.2.2.1], by rw [up_ne (by decide), r2.2.2.2.1], by rw [up_ne (by decide), r2.2.2.2.2.1], by rw [up_ne (by decide), r2.2.2.2.2.2.1], by rw [up_ne (by decide), r2.2.2.2.2.2.2]⟩, fun k hk _ => by rw [up_ne (by decide), r3 k hk (by omega)], fun x hx _ => by rw [up_ne (by decide), up_ne (by decide), up_ne (by decide), up_ne (by decide)]; exact r4 x hx (by omega), fun k hk hn => ?_⟩
      rw [up_eq]
      by_cases z : k = i
      · subst z
        rw [upd_eq]
      · rw [upd_ne z, r5 k hk (by omega)]
  have loop2 : ∀ m i τ (x : Option Value), i + m = 15 → BKp σ τ c (13 + i) A B E D → K 120 [some (.ref 146), some (.int (nI (88 * c))), some (.int (nI i)), x] [] (cw_B τ lam) := by
    intro m
    induction m with
    | zero =>
      intro i τ x hi h
      obtain rfl : i = 15 := by omega
      refine st_go hK rfl rfl ?_
      refine st_go hK rfl rfl ?_
      refine st_ifn hK rfl rfl (nI_leI (a := 15) (b := 15) (by omega) (by omega)) (fun _ => ?_) (fun c => absurd (by omega) c)
      refine st_go hK rfl rfl ?_
      refine st_go hK rfl rfl ?_
      change K _ [some (.ref 146), some (.int (nI (88 * c))), some (.int (0 : Int32)), _] _ _
      exact loop3 32 0 τ _ (by omega) h
    | succ m ih =>
      intro i τ x hi h
      obtain ⟨v1, v2, v3, v4, v5⟩ := hv i (by omega)
      have e155 := (congrFun (h.1 155 (by omega) (by omega) (by omega)) (88 * c + 13 + i)).trans v5
      have a0 : (D i + 2 * A i + 64 * B i + 2048 * E i) % 2 = D i := by omega
      have a1 : (D i + 2 * A i + 64 * B i + 2048 * E i) / 2 % 32 = A i := by omega
      have a2 : (D i + 2 * A i + 64 * B i + 2048 * E i) / 64 % 32 = B i := by omega
      have a3 : (D i + 2 * A i + 64 * B i + 2048 * E i) / 2048 = E i := by omega
      refine st_go hK rfl rfl ?_
      refine st_go hK rfl rfl ?_
      refine st_ifn hK rfl rfl (nI_leI (a := 15) (b := i) (by omega) (by omega)) (fun c => absurd c (by omega)) (fun _ => ?_)
      refine st_go hK rfl rfl ?_
      refine st_getr hK rfl qf_146_14 ?_
      refine st_go hK rfl rfl ?_
      refine st_go hK rfl rfl ?_
      refine bnv hK rfl (show _ = nI ((88 * c) + 13) from nI_add (88 * c) 13) ?_
      refine st_go hK rfl rfl ?_
      refine bnv hK rfl (show _ = nI (((88 * c) + 13) + i) from nI_add ((88 * c) + 13) i) ?_
      refine ga (e := ((88 * c) + 13) + i) (v := nI (D i + 2 * A i + 64 * B i + 2048 * E i)) hK rfl qa_155 rfl (by omega) rfl e155 ?_
      refine st_go hK rfl rfl ?_
      change K _ [some (.ref 146), some (.int (nI (88 * c))), some (.int (nI i)), some (.int (nI (D i + 2 * A i + 64 * B i + 2048 * E i)))] _ _
      refine st_go hK rfl rfl ?_
      refine st_getr hK rfl qf_146_8 ?_
      refine st_go hK rfl rfl ?_
      refine st_go hK rfl rfl ?_
      refine st_go hK rfl rfl ?_
      refine dvv (v := nI (D i)) hK rfl (by decide) ((pk_rem (a := D i + 2 * A i + 64 * B i + 2048 * E i) (d := 2) (by omega) (by decide) (by decide)).trans (congrArg nI a0)) ?_
      refine sa (e := i) hK rfl qa_150 rfl (by omega) rfl ?_
      refine st_go hK rfl rfl ?_
      refine st_getr hK rfl qf_146_9 ?_
      refine st_go hK rfl rfl ?_
      refine st_go hK rfl rfl ?_
      refine st_go hK rfl rfl ?_
      refine dvv (v := nI ((D i + 2 * A i + 64 * B i + 2048 * E i) / 2)) hK rfl (by decide) (pk_div (a := D i + 2 * A i + 64 * B i + 2048 * E i) (d := 2) (by omega) (by decide) (by decide)) ?_
      refine st_go hK rfl rfl ?_
      refine dvv (v := nI (A i)) hK rfl (by decide) ((pk_rem (a := (D i + 2 * A i + 64 * B i + 2048 * E i) / 2) (d := 32) (by omega) (by decide) (by decide)).trans (congrArg nI a1)) ?_
      refine st_go hK rfl rfl ?_
      refine st_bin hK rfl ?_
      refine sa (e := i) hK rfl qa_151 rfl (by omega) rfl ?_
      refine st_go hK rfl rfl ?_
      refine st_getr hK rfl qf_146_10 ?_
      refine st_go hK rfl rfl ?_
      refine st_go hK rfl rfl ?_
      refine st_go hK rfl rfl ?_
      refine dvv (v := nI ((D i + 2 * A i + 64 * B i + 2048 * E i) / 64)) hK rfl (by decide) (pk_div (a := D i + 2 * A i + 64 * B i + 2048 * E i) (d := 64) (by omega) (by decide) (by decide)) ?_
      refine st_go hK rfl rfl ?_
      refine dvv (v := nI (B i)) hK rfl (by decide) ((pk_rem (a := (D i + 2 * A i + 64 * B i + 2048 * E i) / 64) (d := 32) (by omega) (by decide) (by decide)).trans (congrArg nI a2)) ?_
      refine st_go hK rfl rfl ?_
      refine st_bin hK rfl ?_
      refine sa (e := i) hK rfl qa_152 rfl (by omega) rfl ?_
      refine st_go hK rfl rfl ?_
      refine st_getr hK rfl qf_146_11 ?_
      refine st_go hK rfl rfl ?_
      refine st_go hK rfl rfl ?_
      refine st_go hK rfl rfl ?_
      refine dvv (v := nI (E i)) hK rfl (by decide) ((pk_div (a := D i + 2 * A i + 64 * B i + 2048 * E i) (d := 2048) (by omega) (by decide) (by decide)).trans (congrArg nI a3)) ?_
      refine st_go hK rfl rfl ?_
      refine st_bin hK rfl ?_
      refine sa (e := i) hK rfl qa_153 rfl (by omega) rfl ?_
      refine st_go hK rfl rfl ?_
      rw [nI_1]
      refine st_go hK rfl rfl ?_
      refine ih (i + 1) _ _ (by omega) ?_
      obtain ⟨r1, r2, r3, r4, r5⟩ := h
      have n6 : ∀ p, (p < 150 ∨ 153 < p) → ∀ a b e f : Int32, cw_up (cw_up (cw_up (cw_up τ 150 i a) 151 i b) 152 i e) 153 i f p = τ p := fun p hp a b e f => by rw [up_ne (by omega), up_ne (by omega), up_ne (by omega), up_ne (by omega)]
      refine ⟨fun p p1 p2 p3 => by rw [n6 p (by omega), r1 p p1 p2 p3], ⟨fun k k1 k2 k3 => by rw [n6 146 (by omega), r2.1 k k1 k2 k3], by rw [n6 146 (by omega), r2.2.1], by rw [n6 146 (by omega), r2.2.2.1], by rw [n6 146 (by omega), r2.2.2.2.1], by rw [n6 146 (by omega), r2.2.2.2.2.1], by rw [n6 146 (by omega), r2.2.2.2.2.2.1], by rw [n6 146 (by omega), r2.2.2.2.2.2.2]⟩, fun k hk _ => by rw [n6 149 (by omega), r3 k hk (by omega)], fun x hx hn => ?_, fun k hk hn => by omega⟩
      rw [up_ne (by decide), up_ne (by decide), up_ne (by decide), up_eq, up_ne (by decide), up_ne (by decide), up_eq, up_ne (by decide), up_ne (by decide), up_eq, up_ne (by decide), up_eq, up_ne (by decide), up_ne (by decide), up_ne (by decide)]
      by_cases z : x = i
      · subst z
        rw [upd_eq, upd_eq, upd_eq, upd_eq]
        exact ⟨rfl, rfl, rfl, rfl⟩
      · rw [upd_ne z, upd_ne z, upd_ne z, upd_ne z]
        exact r4 x hx (by omega)
  have loop1 : ∀ m i τ, i + m = 8 → BKp σ τ c (5 + i) A B E D → K 90 [some (.ref 146), some (.int (nI (88 * c))), some (.int (nI i)), none] [] (cw_B τ lam) := by
    intro m
    induction m with
    | zero =>
      intro i τ hi h
      obtain rfl : i = 8 := by omega
      refine st_go hK rfl rfl ?_
      refine st_go hK rfl rfl ?_
      refine st_ifn hK rfl rfl (nI_leI (a := 8) (b := 8) (by omega) (by omega)) (fun _ => ?_) (fun c => absurd (by omega) c)
      refine st_go hK rfl rfl ?_
      refine st_go hK rfl rfl ?_
      change K _ [some (.ref 146), some (.int (nI (88 * c))), some (.int (0 : Int32)), _] _ _
      exact loop2 15 0 τ _ (by omega) h
    | succ m ih =>
      intro i τ hi h
      have e155 := congrFun (h.1 155 (by omega) (by omega) (by omega)) (88 * c + 5 + i)
      refine st_go hK rfl rfl ?_
      refine st_go hK rfl rfl ?_
      refine st_ifn hK rfl rfl (nI_leI (a := 8) (b := i) (by omega) (by omega)) (fun c => absurd c (by omega)) (fun _ => ?_)
      refine st_go hK rfl rfl ?_
      refine st_getr hK rfl qf_146_7 ?_
      refine st_go hK rfl rfl ?_
      refine st_go hK rfl rfl ?_
      refine st_getr hK rfl qf_146_14 ?_
      refine st_go hK rfl rfl ?_
      refine st_go hK rfl rfl ?_
      refine bnv hK rfl (show _ = nI ((88 * c) + 5) from nI_add (88 * c) 5) ?_
      refine st_go hK rfl rfl ?_
      refine bnv hK rfl (show _ = nI (((88 * c) + 5) + i) from nI_add ((88 * c) + 5) i) ?_
      refine ga (e := ((88 * c) + 5) + i) (v := σ 155 (88 * c + 5 + i)) hK rfl qa_155 rfl (by omega) rfl e155 ?_
      refine sa (e := i) hK rfl qa_149 rfl (by omega) rfl ?_
      refine st_go hK rfl rfl ?_
      rw [nI_1]
      refine st_go hK rfl rfl ?_
      refine ih (i + 1) _ (by omega) ?_
      obtain ⟨r1, r2, r3, r4, r5⟩ := h
      refine ⟨fun p p1 p2 p3 => by rw [up_ne (by omega), r1 p p1 p2 p3], ⟨fun k k1 k2 k3 => by rw [up_ne (by decide), r2.1 k k1 k2 k3], by rw [up_ne (by decide), r2.2.1], by rw [up_ne (by decide), r2.2.2.1], by rw [up_ne (by decide), r2.2.2.2.1], by rw [up_ne (by decide), r2.2.2.2.2.1], by rw [up_ne (by decide), r2.2.2.2.2.2.1], by rw [up_ne (by decide), r2.2.2.2.2.2.2]⟩, fun k hk _ => ?_, fun x hx _ => by omega, fun k hk hn => by omega⟩
      rw [up_eq]
      by_cases z : k = i
      · subst z
        rw [upd_eq]
      · rw [upd_ne z, r3 k hk (by omega)]
  refine st_go hK rfl rfl ?_
  refine gi (v := nI (c + 1)) hK rfl qf_146_13 h13 ?_
  refine st_ifn hK rfl rfl (not_congr (nI_eq (a := c + 1) (b := 0) (by omega) (by omega))) (fun _ => ?_) (fun c => absurd (by omega) c)
  refine st_go hK rfl rfl ?_
  refine st_go hK rfl rfl ?_
  refine gi (v := nI (c + 1)) hK rfl qf_146_13 h13 ?_
  refine st_go hK rfl rfl ?_
  refine bnv hK rfl (show _ = nI c from nI_pred _) ?_
  refine st_put hK rfl qf_146_13 rfl ?_
  refine st_go hK rfl rfl ?_
  refine st_go hK rfl rfl ?_
  refine gi (v := nI c) hK rfl qf_146_13 (by rw [up_eq, upd_eq]) ?_
  refine bnv hK rfl (show _ = nI (88 * c) from nI_mul 88 c) ?_
  refine st_go hK rfl rfl ?_
  change K _ [some (.ref 146), some (.int (nI (88 * c))), _, _] _ _
  refine st_go hK rfl rfl ?_
  refine st_go hK rfl rfl ?_
  refine st_getr hK rfl qf_146_14 ?_
  refine st_go hK rfl rfl ?_
  refine ga (e := 88 * c) (v := σ 155 (88 * c)) hK rfl qa_155 rfl (by omega) rfl (by rw [up_ne (by decide)]) ?_
  refine st_put hK rfl qf_146_1 rfl ?_
  refine st_go hK rfl rfl ?_
  refine st_go hK rfl rfl ?_
  refine st_getr hK rfl qf_146_14 ?_
  refine st_go hK rfl rfl ?_
  refine st_go hK rfl rfl ?_
  refine bnv hK rfl (show _ = nI ((88 * c) + 1) from nI_add (88 * c) 1) ?_
  refine ga (e := (88 * c) + 1) (v := σ 155 ((88 * c) + 1)) hK rfl qa_155 rfl (by omega) rfl (by rw [up_ne (by decide), up_ne (by decide)]) ?_
  refine st_put hK rfl qf_146_3 rfl ?_
  refine st_go hK rfl rfl ?_
  refine st_go hK rfl rfl ?_
  refine st_getr hK rfl qf_146_14 ?_
  refine st_go hK rfl rfl ?_
  refine st_go hK rfl rfl ?_
  refine bnv hK rfl (show _ = nI ((88 * c) + 2) from nI_add (88 * c) 2) ?_
  refine ga (e := (88 * c) + 2) (v := σ 155 ((88 * c) + 2)) hK rfl qa_155 rfl (by omega) rfl (by rw [up_ne (by decide), up_ne (by decide), up_ne (by decide)]) ?_
  refine st_put hK rfl qf_146_4 rfl ?_
  refine st_go hK rfl rfl ?_
  refine st_go hK rfl rfl ?_
  refine st_getr hK rfl qf_146_14 ?_
  refine st_go hK rfl rfl ?_
  refine st_go hK rfl rfl ?_
  refine bnv hK rfl (show _ = nI ((88 * c) + 3) from nI_add (88 * c) 3) ?_
  refine ga (e := (88 * c) + 3) (v := σ 155 ((88 * c) + 3)) hK rfl qa_155 rfl (by omega) rfl (by rw [up_ne (by decide), up_ne (by decide), up_ne (by decide), up_ne (by decide)]) ?_
  refine st_put hK rfl qf_146_5 rfl ?_
  refine st_go hK rfl rfl ?_
  refine st_go hK rfl rfl ?_
  refine st_getr hK rfl qf_146_14 ?_
  refine st_go hK rfl rfl ?_
  refine st_go hK rfl rfl ?_
  refine bnv hK rfl (show _ = nI ((88 * c) + 4) from nI_add (88 * c) 4) ?_
  refine ga (e := (88 * c) + 4) (v := σ 155 ((88 * c) + 4)) hK rfl qa_155 rfl (by omega) rfl (by rw [up_ne (by decide), up_ne (by decide), up_ne (by decide), up_ne (by decide), up_ne (by decide)]) ?_
  refine st_put hK rfl qf_146_6 rfl ?_
  refine st_go hK rfl rfl ?_
  refine st_go hK rfl rfl ?_
  change K _ [some (.ref 146), some (.int (nI (88 * c))), some (.int (0 : Int32)), _] _ _
  refine loop1 8 0 _ (by omega) ⟨fun p p1 p2 p3 => by rw [up_ne p1, up_ne p1, up_ne p1, up_ne p1, up_ne p1, up_ne p1], ⟨fun k k1 k2 k3 => ?_, ?_, ?_, ?_, ?_, ?_, ?_⟩, fun k hk hn => by omega, fun x hx hn => by omega, fun k hk hn => by omega⟩
  · rw [up_eq, upd_ne (by omega), up_eq, upd_ne (by omega), up_eq, upd_ne (by omega), up_eq, upd_ne (by omega), up_eq, upd_ne (by omega), up_eq, upd_ne (by omega)]
  · simp only [up_at, if_true, show (1 : Nat) ≠ 6 by decide, show (1 : Nat) ≠ 5 by decide, show (1 : Nat) ≠ 4 by decide, show (1 : Nat) ≠ 3 by decide, if_false]
  · simp only [up_at, if_true, show (3 : Nat) ≠ 6 by decide, show (3 : Nat) ≠ 5 by decide, show (3 : Nat) ≠ 4 by decide, if_false]
  · simp only [up_at, if_true, show (4 : Nat) ≠ 6 by decide, show (4 : Nat) ≠ 5 by decide, if_false]
  · simp only [up_at, if_true, show (5 : Nat) ≠ 6 by decide, if_false]
  · simp only [up_at, if_true]
  · simp only [up_at, if_true, show (13 : Nat) ≠ 6 by decide, show (13 : Nat) ≠ 5 by decide, show (13 : Nat) ≠ 4 by decide, show (13 : Nat) ≠ 3 by decide, show (13 : Nat) ≠ 1 by decide, if_false]
end
/-- distances, reckoned in one way or the other -/
theorem apart_eq {a b c e : Int32} (ha : 0 ≤ a.toInt ∧ a.toInt ≤ 63) (hb : 0 ≤ b.toInt ∧ b.toInt ≤ 63) (hc : 0 ≤ c.toInt ∧ c.toInt ≤ 63) (he : 0 ≤ e.toInt ∧ e.toInt ≤ 63) : dsF ((a + b) * 65536) ((a - b) * 65536) ((c + e) * 65536) ((c - e) * 65536) = mx (ab (c + e - a - b)) (ab (c - e - a + b)) * 65536 := by
  have t1 := ti_add (a := a) (b := b) (by omega) (by omega)
  have t2 := ti_sub (a := a) (b := b) (by omega) (by omega)
  have t3 := ti_add (a := c) (b := e) (by omega) (by omega)
  have t4 := ti_sub (a := c) (b := e) (by omega) (by omega)
  have u1 := u_i t1 (by omega) (by omega)
  have u2 := u_i t2 (by omega) (by omega)
  have u3 := u_i t3 (by omega) (by omega)
  have u4 := u_i t4 (by omega) (by omega)
  have w1 := ti_sub (a := (a + b) * 65536) (b := (c + e) * 65536) (by omega) (by omega)
  have w2 := ti_sub (a := (a - b) * 65536) (b := (c - e) * 65536) (by omega) (by omega)
  have x1 := ti_sub (a := c + e) (b := a) (by omega) (by omega)
  have x2 := ti_sub (a := c + e - a) (b := b) (by omega) (by omega)
  have x3 := ti_sub (a := c - e) (b := a) (by omega) (by omega)
  have x4 := ti_add (a := c - e - a) (b := b) (by omega) (by omega)
  have y1 := ab_i (a := (a + b) * 65536 - (c + e) * 65536) (by omega)
  have y2 := ab_i (a := (a - b) * 65536 - (c - e) * 65536) (by omega)
  have y3 := ab_i (a := c + e - a - b) (by omega)
  have y4 := ab_i (a := c - e - a + b) (by omega)
  have z1 := mx_i (a := ab ((a + b) * 65536 - (c + e) * 65536)) (b := ab ((a - b) * 65536 - (c - e) * 65536))
  have z2 := mx_i (a := ab (c + e - a - b)) (b := ab (c - e - a + b))
  have v := u_i (x := mx (ab (c + e - a - b)) (ab (c - e - a + b))) rfl (by omega) (by omega)
  apply Int32.toInt_inj.mp
  show (mx (ab ((a + b) * 65536 - (c + e) * 65536)) (ab ((a - b) * 65536 - (c - e) * 65536))).toInt = _
  rw [v]
  omega

