/-! THE MODEL: trunk, loops, arrivals -/
/-- sums over numbers -/
def rs (f : Nat → Int32) : Nat → Int32
  | 0 => 0
  | m + 1 => rs f m + f m
theorem rs_congr {f g : Nat → Int32} : ∀ m, (∀ n, n < m → f n = g n) → rs f m = rs g m
  | 0, _ => rfl
  | m + 1, h => by
    show rs f m + f m = rs g m + g m
    rw [rs_congr m (fun n hn => h n (by omega)), h m (by omega)]
theorem rs_pt {f g : Nat → Int32} {k : Nat} {v : Int32} (hf : ∀ n, n ≠ k → f n = g n) (hk : f k = g k + v) : ∀ m, rs f m = rs g m + (if k < m then v else 0)
  | 0 => by rw [if_neg (by omega)]; rfl
  | m + 1 => by
    show rs f m + f m = rs g m + g m + _
    rw [rs_pt hf hk m]
    by_cases e : m = k
    · subst e
      rw [if_neg (by omega), if_pos (by omega), hk]
      grind
    · rw [hf m e]
      by_cases c : k < m
      · rw [if_pos c, if_pos (by omega)]
        grind
      · rw [if_neg c, if_neg (by omega)]
        grind
theorem cs_rs {U : Int32 → Nat → Int32} : ∀ (l : List Int32), l.Nodup → (∀ x, x ∈ l → ∃ n, n < 15 ∧ x = nI n) → ∀ acc, csL U l acc = acc + rs (fun n => if nI n ∈ l then U (nI n) 7 else 0) 15
  | [], _, _, acc => by
    show acc = acc + rs _ 15
    rw [rs_congr (g := fun _ => 0) 15 (fun n _ => if_neg (by simp))]
    show acc = acc + (0 : Int32)
    rw [Int32.add_zero]
  | x :: l, hn, ha, acc => by
    obtain ⟨h1, h2⟩ := List.nodup_cons.mp hn
    obtain ⟨k, k15, rfl⟩ := ha x List.mem_cons_self
    show csL U l (acc + U (nI k) 7) = _
    rw [cs_rs l h2 (fun y hy => ha y (List.mem_cons_of_mem _ hy))]
    have e := rs_pt (f := fun n => if nI n ∈ nI k :: l ∧ n < 15 then U (nI n) 7 else 0) (g := fun n => if nI n ∈ l ∧ n < 15 then U (nI n) 7 else 0) (k := k) (v := U (nI k) 7) (fun n hnk => by
      by_cases c : n < 15
      · have : nI n ≠ nI k := fun z => hnk (nI_inj (by omega) (by omega) z)
        simp [this]
      · simp [c]) (by simp [h1, k15]) 15
    rw [if_pos k15] at e
    rw [rs_congr (f := fun n => if nI n ∈ nI k :: l then U (nI n) 7 else 0) (g := fun n => if nI n ∈ nI k :: l ∧ n < 15 then U (nI n) 7 else 0) 15 (fun n hn => by simp [hn]), e, rs_congr (f := fun n => if nI n ∈ l then U (nI n) 7 else 0) (g := fun n => if nI n ∈ l ∧ n < 15 then U (nI n) 7 else 0) 15 (fun n hn => by simp [hn])]
    grind
section
variable {d s top : Nat} {σ τ : cw_V} {lam : Nat → Int64} {Q : cw_Q}
/-- what the model's places are -/
theorem MW.pl (hM : MW σ s) (t1 : nodeN s (σ 151) top) (t2 : σ 153 top = -1) : PLab (mv σ) (UV (mv σ) 1) (wrF (mv σ) 1 (UV (mv σ) 1)) (nI top) (mE σ) (mEd σ) := EV_lab hM.wf t1 t2
theorem MW.pc (hM : MW σ s) (t1 : nodeN s (σ 151) top) (t2 : σ 153 top = -1) {n j : Nat} (hn : nodeN s (σ 151) n) (hj : j < 15) (hp : σ 153 n = nI j) : mE σ (nI n) 0 = movF (mE σ (nI j) 0) (mU σ (nI n) 0) (mU σ (nI n) 1) ∧ mE σ (nI n) 1 = movF (mE σ (nI j) 1) (mU σ (nI n) 2) (mU σ (nI n) 3) ∧ mE σ (nI n) 2 = mWr σ (nI n) - dsF (mE σ (nI n) 0) (mE σ (nI n) 1) (mE σ (nI j) 0) (mE σ (nI j) 1) ∧ mE σ (nI n) 3 = mE σ (nI j) 3 + mWr σ (nI n) ∧ mEd σ (nI n) = mEd σ (nI j) + dlF (mWr σ (nI n)) (mU σ (nI n)) := by
  have h := (hM.pl t1 t2).2 (nI n) (hM.wf.node hn) (by rw [pof_n hM.wf hn]; show σ 153 n ≠ -1; rw [hp]; exact nI_ne1 (by omega))
  rw [pof_n hM.wf hn, show mv σ (1 + 8) n = nI j from hp] at h
  exact h
theorem z_mtrunk (hM : MW σ s) (hA : AL σ τ s top) (t1 : nodeN s (σ 151) top) (t2 : σ 153 top = -1) (kk : Q (some (.int (mE σ (nI top) 3))) (cw_B τ lam)) : cw_Z (d + 2) m_Mo_trunk [.ref 146] (cw_B τ lam) Q := by
  have lt := hM.2.1.lt t1
  have e3 : mx (ab (mE σ (nI top) 0 - (σ 146 4 + σ 146 5) * 65536)) (ab (mE σ (nI top) 1 - (σ 146 4 - σ 146 5) * 65536)) = mE σ (nI top) 3 := by
    rw [(hM.pl t1 t2).1.2.2.2.1]
    unfold dsF
    rw [ab_sub (x := mE σ (nI top) 0), ab_sub (x := mE σ (nI top) 1)]
    rfl
  refine zi (L := [some (.ref 146), none, none]) rfl rfl (fun K hK => ?_)
  refine st_go hK rfl rfl ?_
  refine st_getr hK rfl qf_146_29 ?_
  refine st_go hK rfl rfl ?_
  refine gi (v := nI top) hK rfl qf_146_32 hA.2.2.2.1 ?_
  refine ga (e := top) (v := mE σ (nI top) 0) hK rfl qa_166 rfl (by omega) rfl ((hA.2.2.2.2 _ t1).1) ?_
  refine st_go hK rfl rfl ?_
  refine gi (v := σ 146 4) hK rfl qf_146_4 (hA.1.2 4 (by omega) (by omega)) ?_
  refine st_go hK rfl rfl ?_
  refine gi (v := σ 146 5) hK rfl qf_146_5 (hA.1.2 5 (by omega) (by omega)) ?_
  refine st_bin hK rfl ?_
  refine st_go hK rfl rfl ?_
  refine st_bin hK rfl ?_
  refine st_bin hK rfl ?_
  refine cs1 hK rfl (Nat.le_of_ble_eq_true rfl) ?_
  refine z_msize ?_
  change K _ _ (_ :: _) _
  refine st_go hK rfl rfl ?_
  change K _ [some (.ref 146), some (.int (ab (mE σ (nI top) 0 - ((σ 146 4 + σ 146 5) * (65536 : Int32))))), _] _ _
  refine st_go hK rfl rfl ?_
  refine st_getr hK rfl qf_146_30 ?_
  refine st_go hK rfl rfl ?_
  refine gi (v := nI top) hK rfl qf_146_32 hA.2.2.2.1 ?_
  refine ga (e := top) (v := mE σ (nI top) 1) hK rfl qa_167 rfl (by omega) rfl ((hA.2.2.2.2 _ t1).2) ?_
  refine st_go hK rfl rfl ?_
  refine gi (v := σ 146 4) hK rfl qf_146_4 (hA.1.2 4 (by omega) (by omega)) ?_
  refine st_go hK rfl rfl ?_
  refine gi (v := σ 146 5) hK rfl qf_146_5 (hA.1.2 5 (by omega) (by omega)) ?_
  refine st_bin hK rfl ?_
  refine st_go hK rfl rfl ?_
  refine st_bin hK rfl ?_
  refine st_bin hK rfl ?_
  refine cs1 hK rfl (Nat.le_of_ble_eq_true rfl) ?_
  refine z_msize ?_
  change K _ _ (_ :: _) _
  refine st_go hK rfl rfl ?_
  change K _ [some (.ref 146), some (.int (ab (mE σ (nI top) 0 - ((σ 146 4 + σ 146 5) * (65536 : Int32))))), some (.int (ab (mE σ (nI top) 1 - ((σ 146 4 - σ 146 5) * (65536 : Int32)))))] _ _
  refine st_go hK rfl rfl ?_
  refine st_go hK rfl rfl ?_
  refine cs2 hK rfl (Nat.le_of_ble_eq_true rfl) ?_
  refine z_mgreater ?_
  change K _ _ (_ :: _) _
  refine st_ret hK rfl rfl ?_
  rw [e3]
  exact kk
theorem z_mloop (hM : MW σ s) (hA : AL σ τ s top) (t1 : nodeN s (σ 151) top) (t2 : σ 153 top = -1) {n : Nat} (hn : nodeN s (σ 151) n) (hp : σ 153 n ≠ -1) (kk : Q (some (.int (mE σ (nI n) 2))) (cw_B τ lam)) : cw_Z (d + 2) m_Mo_loop [.ref 146, .int (nI n)] (cw_B τ lam) Q := by
  have ln := hM.2.1.lt hn
  obtain ⟨j, j8, j15, j1, j2, j3, j4⟩ := hM.2.1.up hn hp
  have e153 : τ 153 n = nI j := (congrFun (hA.1.1 153 (by omega) (by omega)) n).trans j1
  have e2 := (hM.pc t1 t2 hn j15 j1).2.2.1
  refine zi (L := [some (.ref 146), some (.int (nI n)), none, none, none]) rfl rfl (fun K hK => ?_)
  refine st_go hK rfl rfl ?_
  refine st_getr hK rfl qf_146_11 ?_
  refine st_go hK rfl rfl ?_
  refine ga (e := n) (v := nI j) hK rfl qa_153 rfl (by omega) rfl e153 ?_
  refine st_go hK rfl rfl ?_
  change K _ [some (.ref 146), some (.int (nI n)), some (.int (nI j)), _, _] _ _
  refine st_go hK rfl rfl ?_
  refine st_getr hK rfl qf_146_29 ?_
  refine st_go hK rfl rfl ?_
  refine ga (e := n) (v := mE σ (nI n) 0) hK rfl qa_166 rfl (by omega) rfl ((hA.2.2.2.2 _ hn).1) ?_
  refine st_go hK rfl rfl ?_
  refine st_getr hK rfl qf_146_29 ?_
  refine st_go hK rfl rfl ?_
  refine ga (e := j) (v := mE σ (nI j) 0) hK rfl qa_166 rfl (by omega) rfl ((hA.2.2.2.2 _ j3).1) ?_
  refine st_bin hK rfl ?_
  refine cs1 hK rfl (Nat.le_of_ble_eq_true rfl) ?_
  refine z_msize ?_
  change K _ _ (_ :: _) _
  refine st_go hK rfl rfl ?_
  change K _ [some (.ref 146), some (.int (nI n)), some (.int (nI j)), some (.int (ab (mE σ (nI n) 0 - mE σ (nI j) 0))), _] _ _
  refine st_go hK rfl rfl ?_
  refine st_getr hK rfl qf_146_30 ?_
  refine st_go hK rfl rfl ?_
  refine ga (e := n) (v := mE σ (nI n) 1) hK rfl qa_167 rfl (by omega) rfl ((hA.2.2.2.2 _ hn).2) ?_
  refine st_go hK rfl rfl ?_
  refine st_getr hK rfl qf_146_30 ?_
  refine st_go hK rfl rfl ?_
  refine ga (e := j) (v := mE σ (nI j) 1) hK rfl qa_167 rfl (by omega) rfl ((hA.2.2.2.2 _ j3).2) ?_
  refine st_bin hK rfl ?_
  refine cs1 hK rfl (Nat.le_of_ble_eq_true rfl) ?_
  refine z_msize ?_
  change K _ _ (_ :: _) _
  refine st_go hK rfl rfl ?_
  change K _ [some (.ref 146), some (.int (nI n)), some (.int (nI j)), some (.int (ab (mE σ (nI n) 0 - mE σ (nI j) 0))), some (.int (ab (mE σ (nI n) 1 - mE σ (nI j) 1)))] _ _
  refine st_go hK rfl rfl ?_
  refine st_getr hK rfl qf_146_21 ?_
  refine st_go hK rfl rfl ?_
  refine ga (e := n) (v := mWr σ (nI n)) hK rfl qa_162 rfl (by omega) rfl (hA.2.2.1 _ hn hp) ?_
  refine st_go hK rfl rfl ?_
  refine st_go hK rfl rfl ?_
  refine cs2 hK rfl (Nat.le_of_ble_eq_true rfl) ?_
  refine z_mgreater ?_
  change K _ _ (_ :: _) _
  refine st_bin hK rfl ?_
  refine st_ret hK rfl rfl ?_
  rw [e2] at kk
  exact kk
theorem z_arrives (hM : MW σ s) (hA : AL σ τ s top) (t1 : nodeN s (σ 151) top) (t2 : σ 153 top = -1) (t5 : ∀ n, nodeN s (σ 151) n → σ 153 n = -1 → n = top) {k : Nat} (hk : k < s) (kk : Q (some (.int (arE (mv σ) k))) (cw_B τ lam)) : cw_Z (d + 3) m_Mo_arrives [.ref 146, .int (nI k)] (cw_B τ lam) Q := by
  have hW := hM.2.1
  have h8 := hW.1
  have lt := hW.lt t1
  obtain ⟨ρ, hρ⟩ := hW.2.2.2.2.2
  refine zi (L := [some (.ref 146), some (.int (nI k)), none, none]) rfl rfl (fun K hK => ?_)
  have loop : ∀ m n sum, nodeN s (σ 151) n → ρ n < m → sum + mE σ (nI n) 3 = arE (mv σ) k + mE σ (nI top) 3 → K 21 [some (.ref 146), some (.int (nI k)), some (.int sum), some (.int (nI n))] [] (cw_B τ lam) := by
    intro m
    induction m with
    | zero => intro n sum hn hr; omega
    | succ m ih =>
      intro n sum hn hr e
      have ln := hW.lt hn
      by_cases ctop : n = top
      · subst ctop
        refine st_go hK rfl rfl ?_
        refine st_go hK rfl rfl ?_
        refine gi (v := nI n) hK rfl qf_146_32 hA.2.2.2.1 ?_
        refine st_ifn hK rfl rfl (nI_eq (a := n) (b := n) (by omega) (by omega)) (fun _ => ?_) (fun c => absurd rfl c)
        refine st_go hK rfl rfl ?_
        refine st_ret hK rfl rfl ?_
        rw [show sum = arE (mv σ) k by grind]
        exact kk
      · have hp : σ 153 n ≠ -1 := fun z => ctop (t5 n hn z)
        obtain ⟨j, j8, j15, j1, j2, j3, j4⟩ := hW.up hn hp
        have e153 : τ 153 n = nI j := (congrFun (hA.1.1 153 (by omega) (by omega)) n).trans j1
        have rj := (hρ n hn).2 j j15 j1
        have e162 := hA.2.2.1 n hn hp
        have e3 := (hM.pc t1 t2 hn j15 j1).2.2.2.1
        refine st_go hK rfl rfl ?_
        refine st_go hK rfl rfl ?_
        refine gi (v := nI top) hK rfl qf_146_32 hA.2.2.2.1 ?_
        refine st_ifn hK rfl rfl (nI_eq (a := n) (b := top) (by omega) (by omega)) (fun c => absurd c ctop) (fun _ => ?_)
        refine st_go hK rfl rfl ?_
        refine st_go hK rfl rfl ?_
        refine st_getr hK rfl qf_146_21 ?_
        refine st_go hK rfl rfl ?_
        refine ga (e := n) (v := mWr σ (nI n)) hK rfl qa_162 rfl (by omega) rfl e162 ?_
        refine st_bin hK rfl ?_
        refine st_go hK rfl rfl ?_
        change K _ [some (.ref 146), some (.int (nI k)), some (.int (sum + mWr σ (nI n))), some (.int (nI n))] _ _
        refine st_go hK rfl rfl ?_
        refine st_getr hK rfl qf_146_11 ?_
        refine st_go hK rfl rfl ?_
        refine ga (e := n) (v := nI j) hK rfl qa_153 rfl (by omega) rfl e153 ?_
        refine st_go hK rfl rfl ?_
        change K _ [some (.ref 146), some (.int (nI k)), some (.int (sum + mWr σ (nI n))), some (.int (nI j))] _ _
        refine st_go hK rfl rfl ?_
        exact ih j _ j3 (by omega) (by rw [← e, e3]; grind)
  refine st_go hK rfl rfl ?_
  refine cv0 hK rfl qc_146 (Nat.le_of_ble_eq_true rfl) ?_
  refine z_mtrunk hM hA t1 t2 ?_
  change K _ _ (_ :: _) _
  refine st_go hK rfl rfl ?_
  refine st_getr hK rfl qf_146_2 ?_
  refine st_go hK rfl rfl ?_
  refine st_go hK rfl rfl ?_
  refine bnv hK rfl (show _ = nI (4 * k) from nI_mul 4 k) ?_
  refine st_go hK rfl rfl ?_
  refine bnv hK rfl (show _ = nI ((4 * k) + 2) from nI_add (4 * k) 2) ?_
  refine ga (e := (4 * k) + 2) (v := σ 148 ((4 * k) + 2)) hK rfl qa_148 rfl (by omega) rfl (congrFun (hA.1.1 148 (by omega) (by omega)) _) ?_
  refine st_go hK rfl rfl ?_
  refine st_bin hK rfl ?_
  refine st_bin hK rfl ?_
  refine st_go hK rfl rfl ?_
  change K _ [some (.ref 146), some (.int (nI k)), some (.int ((mE σ (nI top) 3) + (σ 148 ((4 * k) + 2) * (65536 : Int32)))), _] _ _
  refine st_go hK rfl rfl ?_
  refine st_go hK rfl rfl ?_
  change K _ [some (.ref 146), some (.int (nI k)), some (.int ((mE σ (nI top) 3) + (σ 148 ((4 * k) + 2) * (65536 : Int32)))), some (.int (nI k))] _ _
  refine loop (ρ k + 1) k _ (Or.inl hk) (by omega) ?_
  show mE σ (nI top) 3 + σ 148 (4 * k + 2) * 65536 + mE σ (nI k) 3 = mE σ (nI k) 3 + σ 148 (4 * k + 2) * 65536 + mE σ (nI top) 3
  grind
theorem z_spread (hM : MW σ s) (hA : AL σ τ s top) (t1 : nodeN s (σ 151) top) (t2 : σ 153 top = -1) (t5 : ∀ n, nodeN s (σ 151) n → σ 153 n = -1 → n = top) (hs : 0 < s) (kk : Q (some (.int ((sprF (arE (mv σ)) (s - 1) 1 (arE (mv σ) 0, arE (mv σ) 0)).2 - (sprF (arE (mv σ)) (s - 1) 1 (arE (mv σ) 0, arE (mv σ) 0)).1))) (cw_B τ lam)) : cw_Z (d + 4) m_Mo_spread [.ref 146] (cw_B τ lam) Q := by
  have h8 := hM.2.1.1
  have es : τ 146 1 = nI s := (hA.1.2 1 (by omega) (by omega)).trans hM.1
  refine zi (L := [some (.ref 146), none, none, none]) rfl rfl (fun K hK => ?_)
  have loop : ∀ m i (a b : Int32), i + m = s → sprF (arE (mv σ)) m i (b, a) = sprF (arE (mv σ)) (s - 1) 1 (arE (mv σ) 0, arE (mv σ) 0) → K 10 [some (.ref 146), some (.int a), some (.int b), some (.int (nI i))] [] (cw_B τ lam) := by
    intro m
    induction m with
    | zero =>
      intro i a b hi e
      obtain rfl : i = s := by omega
      rw [← e] at kk
      refine st_go hK rfl rfl ?_
      refine st_go hK rfl rfl ?_
      refine gi (v := nI i) hK rfl qf_146_1 es ?_
      refine st_ifn hK rfl rfl (nI_leI (a := i) (b := i) (by omega) (by omega)) (fun _ => ?_) (fun c => absurd (by omega) c)
      refine st_go hK rfl rfl ?_
      refine st_go hK rfl rfl ?_
      refine st_bin hK rfl ?_
      refine st_ret hK rfl rfl ?_
      exact kk
    | succ m ih =>
      intro i a b hi e
      refine st_go hK rfl rfl ?_
      refine st_go hK rfl rfl ?_
      refine gi (v := nI s) hK rfl qf_146_1 es ?_
      refine st_ifn hK rfl rfl (nI_leI (a := s) (b := i) (by omega) (by omega)) (fun c => absurd c (by omega)) (fun _ => ?_)
      refine st_go hK rfl rfl ?_
      refine st_go hK rfl rfl ?_
      refine st_go hK rfl rfl ?_
      refine cv1 hK rfl qc_146 (Nat.le_of_ble_eq_true rfl) ?_
      refine z_arrives hM hA t1 t2 t5 (by omega) ?_
      change K _ _ (_ :: _) _
      refine cs2 hK rfl (Nat.le_of_ble_eq_true rfl) ?_
      refine z_mgreater ?_
      change K _ _ (_ :: _) _
      refine st_go hK rfl rfl ?_
      change K _ [some (.ref 146), some (.int (mx a (arE (mv σ) i))), some (.int b), some (.int (nI i))] _ _
      refine st_go hK rfl rfl ?_
      refine st_go hK rfl rfl ?_
      refine st_go hK rfl rfl ?_
      refine cv1 hK rfl qc_146 (Nat.le_of_ble_eq_true rfl) ?_
      refine z_arrives hM hA t1 t2 t5 (by omega) ?_
      change K _ _ (_ :: _) _
      refine cs2 hK rfl (Nat.le_of_ble_eq_true rfl) ?_
      refine z_mlesser ?_
      change K _ _ (_ :: _) _
      refine st_go hK rfl rfl ?_
      change K _ [some (.ref 146), some (.int (mx a (arE (mv σ) i))), some (.int (mn b (arE (mv σ) i))), some (.int (nI i))] _ _
      refine st_go hK rfl rfl ?_
      rw [nI_1]
      refine st_go hK rfl rfl ?_
      exact ih (i + 1) _ _ (by omega) e
  refine st_go hK rfl rfl ?_
  refine st_go hK rfl rfl ?_
  refine cv1 hK rfl qc_146 (Nat.le_of_ble_eq_true rfl) ?_
  refine z_arrives (k := 0) hM hA t1 t2 t5 hs ?_
  change K _ _ (_ :: _) _
  refine st_go hK rfl rfl ?_
  change K _ [some (.ref 146), some (.int (arE (mv σ) 0)), _, _] _ _
  refine st_go hK rfl rfl ?_
  refine st_go hK rfl rfl ?_
  change K _ [some (.ref 146), some (.int (arE (mv σ) 0)), some (.int (arE (mv σ) 0)), _] _ _
  refine st_go hK rfl rfl ?_
  refine st_go hK rfl rfl ?_
  change K _ [some (.ref 146), some (.int (arE (mv σ) 0)), some (.int (arE (mv σ) 0)), some (.int (1 : Int32))] _ _
  exact loop (s - 1) 1 _ _ (by omega) rfl
/-- the loops: their sum; how many -/
def lpG (σ : cw_V) (c : Bool) (n : Nat) : Int32 := bif c then (if 0 < mE σ (nI n) 2 then 1 else 0) else mE σ (nI n) 2
theorem z_loops (hM : MW σ s) (hA : AL σ τ s top) (t1 : nodeN s (σ 151) top) (t2 : σ 153 top = -1) (t5 : ∀ n, nodeN s (σ 151) n → σ 153 n = -1 → n = top) {c : Bool} {f : Nat → Int32} (hf : ∀ n, n < 15 → (nodeN s (σ 151) n → n ≠ top → f n = lpG σ c n) ∧ (¬ (nodeN s (σ 151) n ∧ n ≠ top) → f n = 0)) (kk : Q (some (.int (rs f 15))) (cw_B τ lam)) : cw_Z (d + 3) m_Mo_loops [.ref 146, .int (bif c then 1 else 0)] (cw_B τ lam) Q := by
  have lt := hM.2.1.lt t1
  have e150 : ∀ n, τ 150 n = σ 150 n := fun n => congrFun (hA.1.1 150 (by omega) (by omega)) n
  have e32 := hA.2.2.2.1
  refine zi (L := [some (.ref 146), some (.int (bif c then 1 else 0)), none, none, none]) rfl rfl (fun K hK => ?_)
  have loop : ∀ m i (x : Option Value), i + m = 15 → K 4 [some (.ref 146), some (.int (bif c then 1 else 0)), some (.int (rs f i)), some (.int (nI i)), x] [] (cw_B τ lam) := by
    intro m
    induction m with
    | zero =>
      intro i x hi
      obtain rfl : i = 15 := by omega
      refine st_go hK rfl rfl ?_
      refine st_go hK rfl rfl ?_
      refine st_ifn hK rfl rfl (nI_leI (a := 15) (b := 15) (by omega) (by omega)) (fun _ => ?_) (fun c => absurd (by omega) c)
      refine st_go hK rfl rfl ?_
      refine st_ret hK rfl rfl ?_
      exact kk
    | succ m ih =>
      intro i x hi
      have nx : ∀ (x : Option Value), K 61 [some (.ref 146), some (.int (bif c then 1 else 0)), some (.int (rs f i + f i)), some (.int (nI i)), x] [] (cw_B τ lam) := by
        intro x
        refine st_go hK rfl rfl ?_
        rw [nI_1]
        refine st_go hK rfl rfl ?_
        exact ih (i + 1) x (by omega)
      cases c with
      | false =>
        refine st_go hK rfl rfl ?_
        refine st_go hK rfl rfl ?_
        refine st_ifn hK rfl rfl (nI_leI (a := 15) (b := i) (by omega) (by omega)) (fun c => absurd c (by omega)) (fun _ => ?_)
        refine st_go hK rfl rfl ?_
        refine st_getr hK rfl qf_146_8 ?_
        refine st_go hK rfl rfl ?_
        refine ga (e := i) (v := σ 150 i) hK rfl qa_150 rfl (by omega) rfl (e150 _) ?_
        refine st_go hK rfl rfl ?_
        refine st_if hK rfl rfl (fun c17 => ?_) (fun c17 => ?_)
        · refine st_go hK rfl rfl ?_
          refine st_go hK rfl rfl ?_
          change K _ [some (.ref 146), some (.int (0 : Int32)), some (.int (rs f i)), some (.int (nI i)), some (.int (0 : Int32))] _ _
          refine st_go hK rfl rfl ?_
          refine st_go hK rfl rfl ?_
          refine st_if hK rfl rfl (fun _ => ?_) (fun c => absurd (by decide) c)
          refine st_go hK rfl rfl ?_
          refine st_bin hK rfl ?_
          refine st_go hK rfl rfl ?_
          change K _ [some (.ref 146), some (.int (0 : Int32)), some (.int (rs f i + (0 : Int32))), some (.int (nI i)), some (.int (0 : Int32))] _ _
          have hh := nx (some (.int (0 : Int32)))
          rw [(hf i (by omega)).2 (fun z => by first | exact c17 ((hM.is1 (by omega)).mpr z.1) | exact z.2 c25)] at hh
          skip
          exact hh
        · refine st_go hK rfl rfl ?_
          refine st_go hK rfl rfl ?_
          refine gi (v := nI top) hK rfl qf_146_32 e32 ?_
          refine st_ifn hK rfl rfl (nI_eq (a := i) (b := top) (by omega) (by omega)) (fun c25 => ?_) (fun c25 => ?_)
          · refine st_go hK rfl rfl ?_
            refine st_go hK rfl rfl ?_
            change K _ [some (.ref 146), some (.int (0 : Int32)), some (.int (rs f i)), some (.int (nI i)), some (.int (0 : Int32))] _ _
            refine st_go hK rfl rfl ?_
            refine st_go hK rfl rfl ?_
            refine st_if hK rfl rfl (fun _ => ?_) (fun c => absurd (by decide) c)
            refine st_go hK rfl rfl ?_
            refine st_bin hK rfl ?_
            refine st_go hK rfl rfl ?_
            change K _ [some (.ref 146), some (.int (0 : Int32)), some (.int (rs f i + (0 : Int32))), some (.int (nI i)), some (.int (0 : Int32))] _ _
            have hh := nx (some (.int (0 : Int32)))
            rw [(hf i (by omega)).2 (fun z => by first | exact c17 ((hM.is1 (by omega)).mpr z.1) | exact z.2 c25)] at hh
            skip
            exact hh
          · refine st_go hK rfl rfl ?_
            refine st_go hK rfl rfl ?_
            refine cv1 hK rfl qc_146 (Nat.le_of_ble_eq_true rfl) ?_
            have hn : nodeN s (σ 151) i := (hM.is1 (by omega)).mp (Decidable.not_not.mp c17)
            refine z_mloop hM hA t1 t2 hn (fun z => c25 (t5 i hn z)) ?_
            change K _ _ (_ :: _) _
            refine st_go hK rfl rfl ?_
            refine st_go hK rfl rfl ?_
            change K _ [some (.ref 146), some (.int (0 : Int32)), some (.int (rs f i)), some (.int (nI i)), some (.int (mE σ (nI i) 2))] _ _
            refine st_go hK rfl rfl ?_
            refine st_go hK rfl rfl ?_
            refine st_if hK rfl rfl (fun _ => ?_) (fun c => absurd (by decide) c)
            refine st_go hK rfl rfl ?_
            refine st_bin hK rfl ?_
            refine st_go hK rfl rfl ?_
            change K _ [some (.ref 146), some (.int (0 : Int32)), some (.int (rs f i + (mE σ (nI i) 2))), some (.int (nI i)), some (.int (mE σ (nI i) 2))] _ _
            have hh := nx (some (.int (mE σ (nI i) 2)))
            rw [(hf i (by omega)).1 hn c25] at hh
            rw [show lpG σ false i = _ from rfl] at hh
            exact hh
      | true =>
        refine st_go hK rfl rfl ?_
        refine st_go hK rfl rfl ?_
        refine st_ifn hK rfl rfl (nI_leI (a := 15) (b := i) (by omega) (by omega)) (fun c => absurd c (by omega)) (fun _ => ?_)
        refine st_go hK rfl rfl ?_
        refine st_getr hK rfl qf_146_8 ?_
        refine st_go hK rfl rfl ?_
        refine ga (e := i) (v := σ 150 i) hK rfl qa_150 rfl (by omega) rfl (e150 _) ?_
        refine st_go hK rfl rfl ?_
        refine st_if hK rfl rfl (fun c17 => ?_) (fun c17 => ?_)
        · refine st_go hK rfl rfl ?_
          refine st_go hK rfl rfl ?_
          change K _ [some (.ref 146), some (.int (1 : Int32)), some (.int (rs f i)), some (.int (nI i)), some (.int (0 : Int32))] _ _
          refine st_go hK rfl rfl ?_
          refine st_go hK rfl rfl ?_
          refine st_if hK rfl rfl (fun c => absurd c (by decide)) (fun _ => ?_)
          refine st_go hK rfl rfl ?_
          refine st_if hK rfl rfl (fun _ => ?_) (fun c => absurd (by decide) c)
          refine st_go hK rfl rfl ?_
          refine st_go hK rfl rfl ?_
          refine st_bin hK rfl ?_
          refine st_go hK rfl rfl ?_
          change K _ [some (.ref 146), some (.int (1 : Int32)), some (.int (rs f i + (0 : Int32))), some (.int (nI i)), some (.int (0 : Int32))] _ _
          have hh := nx (some (.int (0 : Int32)))
          rw [(hf i (by omega)).2 (fun z => by first | exact c17 ((hM.is1 (by omega)).mpr z.1) | exact z.2 c25)] at hh
          skip
          exact hh
        · refine st_go hK rfl rfl ?_
          refine st_go hK rfl rfl ?_
          refine gi (v := nI top) hK rfl qf_146_32 e32 ?_
          refine st_ifn hK rfl rfl (nI_eq (a := i) (b := top) (by omega) (by omega)) (fun c25 => ?_) (fun c25 => ?_)
          · refine st_go hK rfl rfl ?_
            refine st_go hK rfl rfl ?_
            change K _ [some (.ref 146), some (.int (1 : Int32)), some (.int (rs f i)), some (.int (nI i)), some (.int (0 : Int32))] _ _
            refine st_go hK rfl rfl ?_
            refine st_go hK rfl rfl ?_
            refine st_if hK rfl rfl (fun c => absurd c (by decide)) (fun _ => ?_)
            refine st_go hK rfl rfl ?_
            refine st_if hK rfl rfl (fun _ => ?_) (fun c => absurd (by decide) c)
            refine st_go hK rfl rfl ?_
            refine st_go hK rfl rfl ?_
            refine st_bin hK rfl ?_
            refine st_go hK rfl rfl ?_
            change K _ [some (.ref 146), some (.int (1 : Int32)), some (.int (rs f i + (0 : Int32))), some (.int (nI i)), some (.int (0 : Int32))] _ _
            have hh := nx (some (.int (0 : Int32)))
            rw [(hf i (by omega)).2 (fun z => by first | exact c17 ((hM.is1 (by omega)).mpr z.1) | exact z.2 c25)] at hh
            skip
            exact hh
          · refine st_go hK rfl rfl ?_
            refine st_go hK rfl rfl ?_
            refine cv1 hK rfl qc_146 (Nat.le_of_ble_eq_true rfl) ?_
            have hn : nodeN s (σ 151) i := (hM.is1 (by omega)).mp (Decidable.not_not.mp c17)
            refine z_mloop hM hA t1 t2 hn (fun z => c25 (t5 i hn z)) ?_
            change K _ _ (_ :: _) _
            refine st_go hK rfl rfl ?_
            refine st_go hK rfl rfl ?_
            change K _ [some (.ref 146), some (.int (1 : Int32)), some (.int (rs f i)), some (.int (nI i)), some (.int (mE σ (nI i) 2))] _ _
            refine st_go hK rfl rfl ?_
            refine st_go hK rfl rfl ?_
            refine st_if hK rfl rfl (fun c => absurd c (by decide)) (fun _ => ?_)
            refine st_go hK rfl rfl ?_
            refine st_if hK rfl rfl (fun c46 => ?_) (fun c46 => ?_)
            · refine st_go hK rfl rfl ?_
              refine st_go hK rfl rfl ?_
              refine st_bin hK rfl ?_
              refine st_go hK rfl rfl ?_
              change K _ [some (.ref 146), some (.int (1 : Int32)), some (.int (rs f i + (0 : Int32))), some (.int (nI i)), some (.int (mE σ (nI i) 2))] _ _
              have hh := nx (some (.int (mE σ (nI i) 2)))
              rw [(hf i (by omega)).1 hn c25] at hh
              unfold lpG at hh
              rw [cond_true] at hh
              first | rw [if_neg (fun z => absurd z (Int32.not_lt.mpr c46))] at hh | rw [if_pos (Int32.not_le.mp c46)] at hh
              exact hh
            · refine st_go hK rfl rfl ?_
              refine st_go hK rfl rfl ?_
              refine st_bin hK rfl ?_
              refine st_go hK rfl rfl ?_
              change K _ [some (.ref 146), some (.int (1 : Int32)), some (.int (rs f i + (1 : Int32))), some (.int (nI i)), some (.int (mE σ (nI i) 2))] _ _
              have hh := nx (some (.int (mE σ (nI i) 2)))
              rw [(hf i (by omega)).1 hn c25] at hh
              unfold lpG at hh
              rw [cond_true] at hh
              first | rw [if_neg (fun z => absurd z (Int32.not_lt.mpr c46))] at hh | rw [if_pos (Int32.not_le.mp c46)] at hh
              exact hh
  refine st_go hK rfl rfl ?_
  refine st_go hK rfl rfl ?_
  refine st_go hK rfl rfl ?_
  refine st_go hK rfl rfl ?_
  exact loop 15 0 none (by omega)
end

