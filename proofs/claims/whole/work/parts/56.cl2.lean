/-! VALUES OF NODES, TOTALS, COUNTS: class and model -/
section
variable {d M : Nat} {h0 : cw_H} {Q : cw_Q} {K : cw_KT} {pc t : Nat} {L : cw_L} {S : List Value} {h : cw_H}
theorem st_tabk {lo : Int} {tg : List Nat} {dflt : Nat} {x : Int32} (hK : cw_Kc d M h0 Q K) (hf : cw_tb M pc = some (s_table lo tg dflt)) (hx : (if lo ≤ x.toInt ∧ x.toInt < lo + tg.length then tg.getD (x.toInt - lo).toNat dflt else dflt) = t) (k : K t L S h) : K pc L (.int x :: S) h := by
  refine hK pc L _ h _ hf ?_
  subst hx
  exact k
theorem st_swk {ks : List (Int × Nat)} {dflt : Nat} {x : Int32} (hK : cw_Kc d M h0 Q K) (hf : cw_tb M pc = some (s_switch ks dflt)) (hx : (ks.lookup x.toInt).getD dflt = t) (k : K t L S h) : K pc L (.int x :: S) h := by
  refine hK pc L _ h _ hf ?_
  subst hx
  exact k
end
section
variable {σ τ : cw_V} {s n : Nat}
theorem md_node (hW : WF σ 1 s) (hM : MD σ 10 1) (hn : nodeN s (σ 7) n) : ev9 (σ (15 + n)) (UV σ 1 (nI n)) ∧ (σ 9 n = -1 → σ (15 + n) 6 = -1) ∧ (σ 9 n ≠ -1 → σ (15 + n) 6 = wrF σ 1 (UV σ 1) (nI n)) := by
  have ln := hW.2.lt hn
  obtain ⟨k, hk, e⟩ := dn_all hW hn
  have ep : pp 10 ((dnF σ 1).getD k 0) = 15 + n := by
    unfold pp
    rw [e]
    show 10 + 5 + (nI n).toNatClampNeg = _
    rw [nI_clamp (by omega)]
  have hpo : pof σ 1 (nI n) = σ 9 n := pof_n hW hn
  refine ⟨?_, fun z => ?_, fun z => ?_⟩
  · have := hM.2.1 k hk
    rw [ep, e] at this
    exact this
  · have hlt : k < (tlF σ 1 15).length := by
      rcases Nat.lt_or_ge k (tlF σ 1 15).length with q | q
      · exact q
      · obtain ⟨k', h1, h2⟩ := dn_par hW q hk
        rw [e, hpo, z] at h2
        obtain ⟨m, m1, m2, -⟩ := (dn_ok hW).1 k' (by omega)
        exact absurd (m2.symm.trans h2) (nI_ne1 (by omega))
    have := hM.2.2.2.1 k hlt
    rw [ep] at this
    exact this
  · have hge : (tlF σ 1 15).length ≤ k := by
      rcases Nat.lt_or_ge k (tlF σ 1 15).length with q | q
      · have := (dn_ok hW).2.2.1.2 k q
        rw [e] at this
        have e2 : nd (nI n) = n := nI_clamp (by omega)
        rw [e2] at this
        exact absurd this z
      · exact q
    have := hM.2.2.1 k hge hk
    rw [ep, e] at this
    exact this
/-- the numbers of a node -/
def nvC (σ : cw_V) (n j : Nat) : Int32 := if j = 0 then σ 7 n else if j = 1 then σ 8 n else if j = 2 then σ 9 n else if j < 9 then UV σ 1 (nI n) (j - 3) else if j = 9 then (if σ 9 n = -1 then -1 else wrF σ 1 (UV σ 1) (nI n)) else if j = 10 then UV σ 1 (nI n) 7 else UV σ 1 (nI n) 8
theorem nv_te (h : TE τ 1 σ 1) (hW : WF σ 1 s) (hn : nodeN s (σ 7) n) (j : Nat) : nvC τ n j = nvC σ n j := by
  have ln := hW.2.lt hn
  have e7 : τ 7 n = σ 7 n := h.hi (i := 6) (by decide) (by decide) ln
  have e8 : τ 8 n = σ 8 n := h.hi (i := 7) (by decide) (by decide) ln
  have e9 : τ 9 n = σ 9 n := h.hi (i := 8) (by decide) (by decide) ln
  have u := h.uv hW hn
  unfold nvC
  rw [e7, e8, e9, u 7 (by decide) (by decide), u 8 (by decide) (by decide)]
  by_cases z : j < 9
  · by_cases q0 : j = 0
    · rw [if_pos q0, if_pos q0]
    · by_cases q1 : j = 1
      · rw [if_neg q0, if_neg q0, if_pos q1, if_pos q1]
      · by_cases q2 : j = 2
        · rw [if_neg q0, if_neg q0, if_neg q1, if_neg q1, if_pos q2, if_pos q2]
        · rw [if_neg q0, if_neg q0, if_neg q1, if_neg q1, if_neg q2, if_neg q2, if_pos z, if_pos z, u (j - 3) (by omega) (by omega)]
  · rw [if_neg (show ¬ j < 9 from z), if_neg (show ¬ j < 9 from z)]
    by_cases q : σ 9 n = -1
    · rw [if_pos q, if_pos q]
    · rw [if_neg q, if_neg q, h.wr hW hn q]
/-- sums along the list, once more -/
theorem ls_cs {E : Int32 → Nat → Int32} {D : List Int32} : ∀ m, m + 1 ≤ D.length → lsF E D (m + 1) = csL (fun x _ => E x 2) ((D.drop 1).take m) 0
  | 0, _ => rfl
  | m + 1, h => by
    have hl : m < (D.drop 1).length := by rw [List.length_drop]; omega
    show lsF E D (m + 1) + E (D.getD (m + 1) 0) 2 = _
    rw [ls_cs m (by omega), List.take_succ, List.getElem?_eq_getElem hl]
    show _ = csL _ (_ ++ [_]) 0
    rw [csL_app]
    congr 2
    rw [List.getD_eq_getElem?_getD, List.getElem_drop, List.getElem?_eq_getElem (by omega), Option.getD_some]
    congr 1
    omega
theorem lc_cs {E : Int32 → Nat → Int32} {D : List Int32} : ∀ m, m + 1 ≤ D.length → lcF E D (m + 1) = csL (fun x _ => if 0 < E x 2 then 1 else 0) ((D.drop 1).take m) 0
  | 0, _ => rfl
  | m + 1, h => by
    have hl : m < (D.drop 1).length := by rw [List.length_drop]; omega
    show (if 0 < E (D.getD (m + 1) 0) 2 then lcF E D (m + 1) + 1 else lcF E D (m + 1)) = _
    rw [lc_cs m (by omega), List.take_succ, List.getElem?_eq_getElem hl]
    show _ = csL _ (_ ++ [_]) 0
    rw [csL_app]
    have e : D.getD (m + 1) 0 = (D.drop 1)[m] := by
      rw [List.getD_eq_getElem?_getD, List.getElem_drop, List.getElem?_eq_getElem (by omega), Option.getD_some]
      congr 1
      omega
    rw [e]
    by_cases q : 0 < E (D.drop 1)[m] 2
    · rw [if_pos q]
      show _ + 1 = _ + (if 0 < E (D.drop 1)[m] 2 then 1 else 0)
      rw [if_pos q]
    · rw [if_neg q]
      show _ = _ + (if 0 < E (D.drop 1)[m] 2 then 1 else 0)
      rw [if_neg q, Int32.add_zero]
theorem ls_congr {E E' : Int32 → Nat → Int32} {D : List Int32} : ∀ m, (∀ k, k < m → E (D.getD k 0) = E' (D.getD k 0)) → lsF E D m = lsF E' D m
  | 0, _ => rfl
  | 1, _ => rfl
  | m + 2, h => by
    show lsF E D (m + 1) + E (D.getD (m + 1) 0) 2 = lsF E' D (m + 1) + E' (D.getD (m + 1) 0) 2
    rw [ls_congr (m + 1) (fun k hk => h k (by omega)), h (m + 1) (by omega)]
theorem lc_congr {E E' : Int32 → Nat → Int32} {D : List Int32} : ∀ m, (∀ k, k < m → E (D.getD k 0) = E' (D.getD k 0)) → lcF E D m = lcF E' D m
  | 0, _ => rfl
  | 1, _ => rfl
  | m + 2, h => by
    show (if 0 < E (D.getD (m + 1) 0) 2 then lcF E D (m + 1) + 1 else lcF E D (m + 1)) = (if 0 < E' (D.getD (m + 1) 0) 2 then lcF E' D (m + 1) + 1 else lcF E' D (m + 1))
    rw [lc_congr (m + 1) (fun k hk => h k (by omega)), h (m + 1) (by omega)]
theorem dn_nodup (hW : WF σ 1 s) : (dnF σ 1).Nodup := by
  rw [List.nodup_iff_pairwise_ne, List.pairwise_iff_getElem]
  intro i j hi hj hij e
  have := (dn_ok hW).2.1 i j hi hj (by rw [List.getD_eq_getElem?_getD, List.getD_eq_getElem?_getD, List.getElem?_eq_getElem hi, List.getElem?_eq_getElem hj, e])
  omega
/-- behind the top there are the others -/
theorem dn_rest (hW : WF σ 1 s) {top : Nat} (t1 : nodeN s (σ 7) top) (h0 : (dnF σ 1).getD 0 0 = nI top) (hpos : 0 < (dnF σ 1).length) (hn15 : n < 15) : nI n ∈ (dnF σ 1).drop 1 ↔ nodeN s (σ 7) n ∧ n ≠ top := by
  have lt := hW.2.lt t1
  constructor
  · intro h
    obtain ⟨i, hi, e⟩ := List.mem_iff_getElem.mp h
    rw [List.length_drop] at hi
    rw [List.getElem_drop] at e
    obtain ⟨m, m1, m2, m3⟩ := (dn_ok hW).1 (1 + i) (by omega)
    rw [List.getD_eq_getElem?_getD, List.getElem?_eq_getElem (by omega), Option.getD_some, e] at m2
    obtain rfl : n = m := nI_inj (by omega) (by omega) m2
    refine ⟨m3, fun z => ?_⟩
    subst z
    have := (dn_ok hW).2.1 0 (1 + i) hpos (by omega) (by rw [h0, List.getD_eq_getElem?_getD, List.getElem?_eq_getElem (by omega), Option.getD_some, e])
    omega
  · rintro ⟨h1, h2⟩
    obtain ⟨k, hk, e⟩ := dn_all hW h1
    have hk0 : k ≠ 0 := fun z => by
      subst z
      rw [h0] at e
      exact h2 (nI_inj (by omega) (by omega) e).symm
    refine List.mem_iff_getElem.mpr ⟨k - 1, by rw [List.length_drop]; omega, ?_⟩
    rw [List.getElem_drop]
    rw [List.getD_eq_getElem?_getD, List.getElem?_eq_getElem hk, Option.getD_some] at e
    rw [← e]
    congr 1
    omega
/-- the totals -/
def tvC (σ : cw_V) (s j : Nat) : Int32 := if j = 0 then costOf σ 1 else if (tlF σ 1 15).length ≠ 1 then -1 else if j = 1 then Ev σ ((dnF σ 1).getD 0 0) 3 else if j = 2 then lsF (Ev σ) (dnF σ 1) (dnF σ 1).length else if j = 3 then (sprF (arE σ) (s - 1) 1 (arE σ 0, arE σ 0)).2 - (sprF (arE σ) (s - 1) 1 (arE σ 0, arE σ 0)).1 else lcF (Ev σ) (dnF σ 1) (dnF σ 1).length
theorem pos_top (hW : WF σ 1 s) (h1 : (tlF σ 1 15).length = 1) : 0 < (dnF σ 1).length ∧ 0 < s := by
  have h : 0 < (dnF σ 1).length := Nat.lt_of_lt_of_le (by omega) (dn_ok hW).2.2.1.1
  exact ⟨h, hW.pos h⟩
theorem tv_te (h : TE τ 1 σ 1) (hW : WF σ 1 s) (j : Nat) : tvC τ s j = tvC σ s j := by
  have dq : ∀ k, k < (dnF σ 1).length → Ev τ ((dnF σ 1).getD k 0) = Ev σ ((dnF σ 1).getD k 0) := fun k hk => by
    obtain ⟨m, m1, m2, m3⟩ := (dn_ok hW).1 k hk
    rw [m2]
    exact h.ev hW m3
  unfold tvC
  rw [h.cost hW, h.tl 15 (by decide), h.dn, ls_congr _ dq, lc_congr _ dq]
  by_cases z : (tlF σ 1 15).length ≠ 1
  · rw [if_pos z, if_pos z]
  · obtain ⟨p1, p2⟩ := pos_top hW (Decidable.not_not.mp z)
    rw [dq 0 p1, h.ar hW p2, spr_congr (f := arE τ) (g := arE σ) (s - 1) 1 _ (fun k h1 h2 => h.ar hW (by omega))]
theorem jc_te {t u : Nat} (h : TE τ t σ u) : ∀ m, m ≤ 7 → jcN τ t m = jcN σ u m
  | 0, _ => rfl
  | m + 1, hm => by
    show jcN τ t m + (if τ (t + 6) (8 + m) ≠ -1 then 1 else 0) = jcN σ u m + (if σ (u + 6) (8 + m) ≠ -1 then 1 else 0)
    rw [jc_te h m (by omega), h.hi (i := 6) (by decide) (by decide) (by omega)]
end
section
variable {d s n nx c L : Nat} {σ τ : cw_V} {lam : Nat → Int64} {Q : cw_Q}
theorem z_nodeValue {j : Nat} (hW : WF σ 1 s) (hM : MD σ 10 1) (hn : nodeN s (σ 7) n) (hj : j ≤ 11) (kk : Q (some (.int (nvC σ n j))) (cw_B σ lam)) : cw_Z (d + 3) m_CW_nodeValue [.ref 0, .int (nI n), .int (nI j)] (cw_B σ lam) Q := by
  have ln := hW.2.lt hn
  have ecl : (nI n).toNatClampNeg = n := nI_clamp (by omega)
  have hin : cw_in (nI n) 15 = true := cw_in_nI ln (by decide)
  have hp : isP (10 + 5 + n) := ⟨10, hW10, Or.inr ⟨n, ln, rfl⟩⟩
  have hnode := hW.node hn
  obtain ⟨m1, m2, m3⟩ := md_node hW hM hn
  rcases (show j = 0 ∨ j = 1 ∨ j = 2 ∨ j = 3 ∨ j = 4 ∨ j = 5 ∨ j = 6 ∨ j = 7 ∨ j = 8 ∨ j = 9 ∨ j = 10 ∨ j = 11 by omega) with rfl | rfl | rfl | rfl | rfl | rfl | rfl | rfl | rfl | rfl | rfl | rfl
  · skip
    refine zi (L := [some (.ref 0), some (.int (nI n)), some (.int (0 : Int32)), none]) rfl rfl (fun K hK => ?_)
    refine st_go hK rfl rfl ?_
    refine st_getr hK rfl qf_0_1 ?_
    refine st_go hK rfl rfl ?_
    refine cv1 hK rfl qc_10 (Nat.le_of_ble_eq_true rfl) ?_
    refine z_part hW10 hin ?_
    rw [ecl]
    change K _ _ (_ :: _) _
    refine st_go hK rfl rfl ?_
    change K _ [some (.ref 0), some (.int (nI n)), some (.int (0 : Int32)), some (.ref (10 + 5 + n))] _ _
    refine st_go hK rfl rfl ?_
    refine st_tabk (t := 68) hK rfl (by decide) ?_
    refine st_go hK rfl rfl ?_
    refine st_getr hK rfl qf_0_0 ?_
    refine st_go hK rfl rfl ?_
    refine cv1 hK rfl qc_1 (Nat.le_of_ble_eq_true rfl) ?_
    refine z_leftOf hT1 (fun _ => ?_) (fun c => absurd hnode c)
    rw [ecl]
    change K _ _ (_ :: _) _
    refine st_ret hK rfl rfl ?_
    exact kk
  · skip
    refine zi (L := [some (.ref 0), some (.int (nI n)), some (.int (1 : Int32)), none]) rfl rfl (fun K hK => ?_)
    refine st_go hK rfl rfl ?_
    refine st_getr hK rfl qf_0_1 ?_
    refine st_go hK rfl rfl ?_
    refine cv1 hK rfl qc_10 (Nat.le_of_ble_eq_true rfl) ?_
    refine z_part hW10 hin ?_
    rw [ecl]
    change K _ _ (_ :: _) _
    refine st_go hK rfl rfl ?_
    change K _ [some (.ref 0), some (.int (nI n)), some (.int (1 : Int32)), some (.ref (10 + 5 + n))] _ _
    refine st_go hK rfl rfl ?_
    refine st_tabk (t := 77) hK rfl (by decide) ?_
    refine st_go hK rfl rfl ?_
    refine st_getr hK rfl qf_0_0 ?_
    refine st_go hK rfl rfl ?_
    refine cv1 hK rfl qc_1 (Nat.le_of_ble_eq_true rfl) ?_
    refine z_rightOf hT1 (fun _ => ?_) (fun c => absurd hnode c)
    rw [ecl]
    change K _ _ (_ :: _) _
    refine st_ret hK rfl rfl ?_
    exact kk
  · skip
    refine zi (L := [some (.ref 0), some (.int (nI n)), some (.int (2 : Int32)), none]) rfl rfl (fun K hK => ?_)
    refine st_go hK rfl rfl ?_
    refine st_getr hK rfl qf_0_1 ?_
    refine st_go hK rfl rfl ?_
    refine cv1 hK rfl qc_10 (Nat.le_of_ble_eq_true rfl) ?_
    refine z_part hW10 hin ?_
    rw [ecl]
    change K _ _ (_ :: _) _
    refine st_go hK rfl rfl ?_
    change K _ [some (.ref 0), some (.int (nI n)), some (.int (2 : Int32)), some (.ref (10 + 5 + n))] _ _
    refine st_go hK rfl rfl ?_
    refine st_tabk (t := 86) hK rfl (by decide) ?_
    refine st_go hK rfl rfl ?_
    refine st_getr hK rfl qf_0_0 ?_
    refine st_go hK rfl rfl ?_
    refine cv1 hK rfl qc_1 (Nat.le_of_ble_eq_true rfl) ?_
    refine z_parentOf hT1 (fun _ => ?_) (fun c => absurd hnode c)
    rw [ecl]
    change K _ _ (_ :: _) _
    refine st_ret hK rfl rfl ?_
    exact kk
  · skip
    refine zi (L := [some (.ref 0), some (.int (nI n)), some (.int (3 : Int32)), none]) rfl rfl (fun K hK => ?_)
    refine st_go hK rfl rfl ?_
    refine st_getr hK rfl qf_0_1 ?_
    refine st_go hK rfl rfl ?_
    refine cv1 hK rfl qc_10 (Nat.le_of_ble_eq_true rfl) ?_
    refine z_part hW10 hin ?_
    rw [ecl]
    change K _ _ (_ :: _) _
    refine st_go hK rfl rfl ?_
    change K _ [some (.ref 0), some (.int (nI n)), some (.int (3 : Int32)), some (.ref (10 + 5 + n))] _ _
    refine st_go hK rfl rfl ?_
    refine st_tabk (t := 95) hK rfl (by decide) ?_
    refine st_go hK rfl rfl ?_
    refine gi (v := σ (10 + 5 + n) 0) hK rfl (Part_f0 hp) rfl ?_
    refine st_ret hK rfl rfl ?_
    have e := m1 0 (by decide) (by decide)
    rw [show σ (10 + 5 + n) 0 = UV σ 1 (nI n) 0 from e]
    exact kk
  · skip
    refine zi (L := [some (.ref 0), some (.int (nI n)), some (.int (4 : Int32)), none]) rfl rfl (fun K hK => ?_)
    refine st_go hK rfl rfl ?_
    refine st_getr hK rfl qf_0_1 ?_
    refine st_go hK rfl rfl ?_
    refine cv1 hK rfl qc_10 (Nat.le_of_ble_eq_true rfl) ?_
    refine z_part hW10 hin ?_
    rw [ecl]
    change K _ _ (_ :: _) _
    refine st_go hK rfl rfl ?_
    change K _ [some (.ref 0), some (.int (nI n)), some (.int (4 : Int32)), some (.ref (10 + 5 + n))] _ _
    refine st_go hK rfl rfl ?_
    refine st_tabk (t := 100) hK rfl (by decide) ?_
    refine st_go hK rfl rfl ?_
    refine gi (v := σ (10 + 5 + n) 1) hK rfl (Part_f1 hp) rfl ?_
    refine st_ret hK rfl rfl ?_
    have e := m1 1 (by decide) (by decide)
    rw [show σ (10 + 5 + n) 1 = UV σ 1 (nI n) 1 from e]
    exact kk
  · skip
    refine zi (L := [some (.ref 0), some (.int (nI n)), some (.int (5 : Int32)), none]) rfl rfl (fun K hK => ?_)
    refine st_go hK rfl rfl ?_
    refine st_getr hK rfl qf_0_1 ?_
    refine st_go hK rfl rfl ?_
    refine cv1 hK rfl qc_10 (Nat.le_of_ble_eq_true rfl) ?_
    refine z_part hW10 hin ?_
    rw [ecl]
    change K _ _ (_ :: _) _
    refine st_go hK rfl rfl ?_
    change K _ [some (.ref 0), some (.int (nI n)), some (.int (5 : Int32)), some (.ref (10 + 5 + n))] _ _
    refine st_go hK rfl rfl ?_
    refine st_tabk (t := 105) hK rfl (by decide) ?_
    refine st_go hK rfl rfl ?_
    refine gi (v := σ (10 + 5 + n) 2) hK rfl (Part_f2 hp) rfl ?_
    refine st_ret hK rfl rfl ?_
    have e := m1 2 (by decide) (by decide)
    rw [show σ (10 + 5 + n) 2 = UV σ 1 (nI n) 2 from e]
    exact kk
  · skip
    refine zi (L := [some (.ref 0), some (.int (nI n)), some (.int (6 : Int32)), none]) rfl rfl (fun K hK => ?_)
    refine st_go hK rfl rfl ?_
    refine st_getr hK rfl qf_0_1 ?_
    refine st_go hK rfl rfl ?_
    refine cv1 hK rfl qc_10 (Nat.le_of_ble_eq_true rfl) ?_
    refine z_part hW10 hin ?_
    rw [ecl]
    change K _ _ (_ :: _) _
    refine st_go hK rfl rfl ?_
    change K _ [some (.ref 0), some (.int (nI n)), some (.int (6 : Int32)), some (.ref (10 + 5 + n))] _ _
    refine st_go hK rfl rfl ?_
    refine st_tabk (t := 110) hK rfl (by decide) ?_
    refine st_go hK rfl rfl ?_
    refine gi (v := σ (10 + 5 + n) 3) hK rfl (Part_f3 hp) rfl ?_
    refine st_ret hK rfl rfl ?_
    have e := m1 3 (by decide) (by decide)
    rw [show σ (10 + 5 + n) 3 = UV σ 1 (nI n) 3 from e]
    exact kk
  · skip
    refine zi (L := [some (.ref 0), some (.int (nI n)), some (.int (7 : Int32)), none]) rfl rfl (fun K hK => ?_)
    refine st_go hK rfl rfl ?_
    refine st_getr hK rfl qf_0_1 ?_
    refine st_go hK rfl rfl ?_
    refine cv1 hK rfl qc_10 (Nat.le_of_ble_eq_true rfl) ?_
    refine z_part hW10 hin ?_
    rw [ecl]
    change K _ _ (_ :: _) _
    refine st_go hK rfl rfl ?_
    change K _ [some (.ref 0), some (.int (nI n)), some (.int (7 : Int32)), some (.ref (10 + 5 + n))] _ _
    refine st_go hK rfl rfl ?_
    refine st_tabk (t := 115) hK rfl (by decide) ?_
    refine st_go hK rfl rfl ?_
    refine gi (v := σ (10 + 5 + n) 4) hK rfl (Part_f4 hp) rfl ?_
    refine st_ret hK rfl rfl ?_
    have e := m1 4 (by decide) (by decide)
    rw [show σ (10 + 5 + n) 4 = UV σ 1 (nI n) 4 from e]
    exact kk
  · skip
    refine zi (L := [some (.ref 0), some (.int (nI n)), some (.int (8 : Int32)), none]) rfl rfl (fun K hK => ?_)
    refine st_go hK rfl rfl ?_
    refine st_getr hK rfl qf_0_1 ?_
    refine st_go hK rfl rfl ?_
    refine cv1 hK rfl qc_10 (Nat.le_of_ble_eq_true rfl) ?_
    refine z_part hW10 hin ?_
    rw [ecl]
    change K _ _ (_ :: _) _
    refine st_go hK rfl rfl ?_
    change K _ [some (.ref 0), some (.int (nI n)), some (.int (8 : Int32)), some (.ref (10 + 5 + n))] _ _
    refine st_go hK rfl rfl ?_
    refine st_tabk (t := 120) hK rfl (by decide) ?_
    refine st_go hK rfl rfl ?_
    refine gi (v := σ (10 + 5 + n) 5) hK rfl (Part_f5 hp) rfl ?_
    refine st_ret hK rfl rfl ?_
    have e := m1 5 (by decide) (by decide)
    rw [show σ (10 + 5 + n) 5 = UV σ 1 (nI n) 5 from e]
    exact kk
  · skip
    refine zi (L := [some (.ref 0), some (.int (nI n)), some (.int (9 : Int32)), none]) rfl rfl (fun K hK => ?_)
    refine st_go hK rfl rfl ?_
    refine st_getr hK rfl qf_0_1 ?_
    refine st_go hK rfl rfl ?_
    refine cv1 hK rfl qc_10 (Nat.le_of_ble_eq_true rfl) ?_
    refine z_part hW10 hin ?_
    rw [ecl]
    change K _ _ (_ :: _) _
    refine st_go hK rfl rfl ?_
    change K _ [some (.ref 0), some (.int (nI n)), some (.int (9 : Int32)), some (.ref (10 + 5 + n))] _ _
    refine st_go hK rfl rfl ?_
    refine st_tabk (t := 125) hK rfl (by decide) ?_
    refine st_go hK rfl rfl ?_
    refine gi (v := σ (10 + 5 + n) 6) hK rfl (Part_f6 hp) rfl ?_
    refine st_ret hK rfl rfl ?_
    have e : σ (10 + 5 + n) 6 = nvC σ n 9 := by
      show _ = if σ 9 n = -1 then (-1 : Int32) else wrF σ 1 (UV σ 1) (nI n)
      by_cases q : σ 9 n = -1
      · rw [if_pos q]; exact m2 q
      · rw [if_neg q]; exact m3 q
    rw [e]
    exact kk
  · skip
    refine zi (L := [some (.ref 0), some (.int (nI n)), some (.int (10 : Int32)), none]) rfl rfl (fun K hK => ?_)
    refine st_go hK rfl rfl ?_
    refine st_getr hK rfl qf_0_1 ?_
    refine st_go hK rfl rfl ?_
    refine cv1 hK rfl qc_10 (Nat.le_of_ble_eq_true rfl) ?_
    refine z_part hW10 hin ?_
    rw [ecl]
    change K _ _ (_ :: _) _
    refine st_go hK rfl rfl ?_
    change K _ [some (.ref 0), some (.int (nI n)), some (.int (10 : Int32)), some (.ref (10 + 5 + n))] _ _
    refine st_go hK rfl rfl ?_
    refine st_tabk (t := 130) hK rfl (by decide) ?_
    refine st_go hK rfl rfl ?_
    refine gi (v := σ (10 + 5 + n) 7) hK rfl (Part_f7 hp) rfl ?_
    refine st_ret hK rfl rfl ?_
    have e := m1 7 (by decide) (by decide)
    rw [show σ (10 + 5 + n) 7 = UV σ 1 (nI n) 7 from e]
    exact kk
  · skip
    refine zi (L := [some (.ref 0), some (.int (nI n)), some (.int (11 : Int32)), none]) rfl rfl (fun K hK => ?_)
    refine st_go hK rfl rfl ?_
    refine st_getr hK rfl qf_0_1 ?_
    refine st_go hK rfl rfl ?_
    refine cv1 hK rfl qc_10 (Nat.le_of_ble_eq_true rfl) ?_
    refine z_part hW10 hin ?_
    rw [ecl]
    change K _ _ (_ :: _) _
    refine st_go hK rfl rfl ?_
    change K _ [some (.ref 0), some (.int (nI n)), some (.int (11 : Int32)), some (.ref (10 + 5 + n))] _ _
    refine st_go hK rfl rfl ?_
    refine st_tabk (t := 135) hK rfl (by decide) ?_
    refine st_go hK rfl rfl ?_
    refine gi (v := σ (10 + 5 + n) 8) hK rfl (Part_f8 hp) rfl ?_
    refine st_ret hK rfl rfl ?_
    have e := m1 8 (by decide) (by decide)
    rw [show σ (10 + 5 + n) 8 = UV σ 1 (nI n) 8 from e]
    exact kk
theorem z_about {j : Nat} (hM : MW σ s) (hT : TL σ τ s) (hn : nodeN s (σ 151) n) (hj : j ≤ 11) (kk : Q (some (.int (nvC (mv σ) n j))) (cw_B τ lam)) : cw_Z (d + 2) m_Mo_about [.ref 146, .int (nI n), .int (nI j)] (cw_B τ lam) Q := by
  have ln := hM.2.1.lt hn
  have r1 := congrFun (hT.1.1 151 (by decide) (by decide)) n
  have r2 := congrFun (hT.1.1 152 (by decide) (by decide)) n
  have r3 := congrFun (hT.1.1 153 (by decide) (by decide)) n
  have r := hT.2.1 n hn
  rcases (show j = 0 ∨ j = 1 ∨ j = 2 ∨ j = 3 ∨ j = 4 ∨ j = 5 ∨ j = 6 ∨ j = 7 ∨ j = 8 ∨ j = 9 ∨ j = 10 ∨ j = 11 by omega) with rfl | rfl | rfl | rfl | rfl | rfl | rfl | rfl | rfl | rfl | rfl | rfl
  · skip
    refine zi (L := [some (.ref 146), some (.int (nI n)), some (.int (0 : Int32))]) rfl rfl (fun K hK => ?_)
    refine st_go hK rfl rfl ?_
    refine st_tabk (t := 60) hK rfl (by decide) ?_
    refine st_go hK rfl rfl ?_
    refine st_getr hK rfl qf_146_9 ?_
    refine st_go hK rfl rfl ?_
    refine ga (e := n) (v := σ 151 n) hK rfl qa_151 rfl (by omega) rfl r1 ?_
    refine st_ret hK rfl rfl ?_
    exact kk
  · skip
    refine zi (L := [some (.ref 146), some (.int (nI n)), some (.int (1 : Int32))]) rfl rfl (fun K hK => ?_)
    refine st_go hK rfl rfl ?_
    refine st_tabk (t := 67) hK rfl (by decide) ?_
    refine st_go hK rfl rfl ?_
    refine st_getr hK rfl qf_146_10 ?_
    refine st_go hK rfl rfl ?_
    refine ga (e := n) (v := σ 152 n) hK rfl qa_152 rfl (by omega) rfl r2 ?_
    refine st_ret hK rfl rfl ?_
    exact kk
  · skip
    refine zi (L := [some (.ref 146), some (.int (nI n)), some (.int (2 : Int32))]) rfl rfl (fun K hK => ?_)
    refine st_go hK rfl rfl ?_
    refine st_tabk (t := 74) hK rfl (by decide) ?_
    refine st_go hK rfl rfl ?_
    refine st_getr hK rfl qf_146_11 ?_
    refine st_go hK rfl rfl ?_
    refine ga (e := n) (v := σ 153 n) hK rfl qa_153 rfl (by omega) rfl r3 ?_
    refine st_ret hK rfl rfl ?_
    exact kk
  · skip
    refine zi (L := [some (.ref 146), some (.int (nI n)), some (.int (3 : Int32))]) rfl rfl (fun K hK => ?_)
    refine st_go hK rfl rfl ?_
    refine st_tabk (t := 81) hK rfl (by decide) ?_
    refine st_go hK rfl rfl ?_
    refine st_getr hK rfl qf_146_15 ?_
    refine st_go hK rfl rfl ?_
    refine ga (e := n) (v := mU σ (nI n) 0) hK rfl qa_156 rfl (by omega) rfl (r 0 (by decide) (by decide)) ?_
    refine st_ret hK rfl rfl ?_
    exact kk
  · skip
    refine zi (L := [some (.ref 146), some (.int (nI n)), some (.int (4 : Int32))]) rfl rfl (fun K hK => ?_)
    refine st_go hK rfl rfl ?_
    refine st_tabk (t := 88) hK rfl (by decide) ?_
    refine st_go hK rfl rfl ?_
    refine st_getr hK rfl qf_146_16 ?_
    refine st_go hK rfl rfl ?_
    refine ga (e := n) (v := mU σ (nI n) 1) hK rfl qa_157 rfl (by omega) rfl (r 1 (by decide) (by decide)) ?_
    refine st_ret hK rfl rfl ?_
    exact kk
  · skip
    refine zi (L := [some (.ref 146), some (.int (nI n)), some (.int (5 : Int32))]) rfl rfl (fun K hK => ?_)
    refine st_go hK rfl rfl ?_
    refine st_tabk (t := 95) hK rfl (by decide) ?_
    refine st_go hK rfl rfl ?_
    refine st_getr hK rfl qf_146_17 ?_
    refine st_go hK rfl rfl ?_
    refine ga (e := n) (v := mU σ (nI n) 2) hK rfl qa_158 rfl (by omega) rfl (r 2 (by decide) (by decide)) ?_
    refine st_ret hK rfl rfl ?_
    exact kk
  · skip
    refine zi (L := [some (.ref 146), some (.int (nI n)), some (.int (6 : Int32))]) rfl rfl (fun K hK => ?_)
    refine st_go hK rfl rfl ?_
    refine st_tabk (t := 102) hK rfl (by decide) ?_
    refine st_go hK rfl rfl ?_
    refine st_getr hK rfl qf_146_18 ?_
    refine st_go hK rfl rfl ?_
    refine ga (e := n) (v := mU σ (nI n) 3) hK rfl qa_159 rfl (by omega) rfl (r 3 (by decide) (by decide)) ?_
    refine st_ret hK rfl rfl ?_
    exact kk
  · skip
    refine zi (L := [some (.ref 146), some (.int (nI n)), some (.int (7 : Int32))]) rfl rfl (fun K hK => ?_)
    refine st_go hK rfl rfl ?_
    refine st_tabk (t := 109) hK rfl (by decide) ?_
    refine st_go hK rfl rfl ?_
    refine st_getr hK rfl qf_146_19 ?_
    refine st_go hK rfl rfl ?_
    refine ga (e := n) (v := mU σ (nI n) 4) hK rfl qa_160 rfl (by omega) rfl (r 4 (by decide) (by decide)) ?_
    refine st_ret hK rfl rfl ?_
    exact kk
  · skip
    refine zi (L := [some (.ref 146), some (.int (nI n)), some (.int (8 : Int32))]) rfl rfl (fun K hK => ?_)
    refine st_go hK rfl rfl ?_
    refine st_tabk (t := 116) hK rfl (by decide) ?_
    refine st_go hK rfl rfl ?_
    refine st_getr hK rfl qf_146_20 ?_
    refine st_go hK rfl rfl ?_
    refine ga (e := n) (v := mU σ (nI n) 5) hK rfl qa_161 rfl (by omega) rfl (r 5 (by decide) (by decide)) ?_
    refine st_ret hK rfl rfl ?_
    exact kk
  · skip
    refine zi (L := [some (.ref 146), some (.int (nI n)), some (.int (9 : Int32))]) rfl rfl (fun K hK => ?_)
    refine st_go hK rfl rfl ?_
    refine st_tabk (t := 123) hK rfl (by decide) ?_
    refine st_go hK rfl rfl ?_
    refine st_go hK rfl rfl ?_
    refine cv1 hK rfl qc_146 (Nat.le_of_ble_eq_true rfl) ?_
    refine z_misTop ln (fun ht => ?_) (fun ht => ?_)
    · change K _ _ (_ :: _) _
      refine st_if hK rfl rfl (fun c => absurd c (by decide)) (fun _ => ?_)
      refine st_go hK rfl rfl ?_
      refine st_go hK rfl rfl ?_
      refine st_ret hK rfl rfl ?_
      rw [r3] at ht
      have e : nvC (mv σ) n 9 = -1 := if_pos ht
      rw [e] at kk
      exact kk
    · change K _ _ (_ :: _) _
      refine st_if hK rfl rfl (fun _ => ?_) (fun c => absurd (by decide) c)
      refine st_go hK rfl rfl ?_
      refine st_getr hK rfl qf_146_21 ?_
      refine st_go hK rfl rfl ?_
      refine ga (e := n) (v := τ 162 n) hK rfl qa_162 rfl (by omega) rfl rfl ?_
      refine st_ret hK rfl rfl ?_
      rw [r3] at ht
      have e : nvC (mv σ) n 9 = wrF (mv σ) 1 (UV (mv σ) 1) (nI n) := if_neg ht
      rw [e] at kk
      rw [hT.2.2 n hn ht]
      exact kk
  · skip
    refine zi (L := [some (.ref 146), some (.int (nI n)), some (.int (10 : Int32))]) rfl rfl (fun K hK => ?_)
    refine st_go hK rfl rfl ?_
    refine st_tabk (t := 142) hK rfl (by decide) ?_
    refine st_go hK rfl rfl ?_
    refine st_getr hK rfl qf_146_22 ?_
    refine st_go hK rfl rfl ?_
    refine ga (e := n) (v := mU σ (nI n) 7) hK rfl qa_163 rfl (by omega) rfl (r 7 (by decide) (by decide)) ?_
    refine st_ret hK rfl rfl ?_
    exact kk
  · skip
    refine zi (L := [some (.ref 146), some (.int (nI n)), some (.int (11 : Int32))]) rfl rfl (fun K hK => ?_)
    refine st_go hK rfl rfl ?_
    refine st_tabk (t := 149) hK rfl (by decide) ?_
    refine st_go hK rfl rfl ?_
    refine st_getr hK rfl qf_146_23 ?_
    refine st_go hK rfl rfl ?_
    refine ga (e := n) (v := mU σ (nI n) 8) hK rfl qa_164 rfl (by omega) rfl (r 8 (by decide) (by decide)) ?_
    refine st_ret hK rfl rfl ?_
    exact kk
theorem z_totalValue {j : Nat} (hW : WF σ 1 s) (hM : MD σ 10 1) (hP : PD σ lam s) (hj : j ≤ 4) (kk : Q (some (.int (tvC σ s j))) (cw_B σ lam)) : cw_Z (d + 2) m_CW_totalValue [.ref 0, .int (nI j)] (cw_B σ lam) Q := by
  by_cases h1 : (tlF σ 1 15).length = 1
  · obtain ⟨p0, p1, p2, p3, p4, p5, p6⟩ := hP.2 h1
    rcases (show j = 0 ∨ j = 1 ∨ j = 2 ∨ j = 3 ∨ j = 4 by omega) with rfl | rfl | rfl | rfl | rfl
    · skip
      refine zi (L := [some (.ref 0), some (.int (0 : Int32))]) rfl rfl (fun K hK => ?_)
      refine st_go hK rfl rfl ?_
      refine st_if hK rfl rfl (fun c => absurd c (by decide)) (fun _ => ?_)
      refine st_go hK rfl rfl ?_
      refine st_getr hK rfl qf_0_1 ?_
      refine gi (v := σ 10 6) hK rfl qf_10_6 rfl ?_
      refine st_ret hK rfl rfl ?_
      have e : σ 10 6 = costOf σ 1 := hM.2.2.2.2.trans dn_cost
      rw [e]
      exact kk
    · skip
      refine zi (L := [some (.ref 0), some (.int (1 : Int32))]) rfl rfl (fun K hK => ?_)
      refine st_go hK rfl rfl ?_
      refine st_if hK rfl rfl (fun _ => ?_) (fun c => absurd (by decide) c)
      refine st_go hK rfl rfl ?_
      refine st_getr hK rfl qf_0_2 ?_
      refine gi (v := σ 30 5) hK rfl qf_30_5 rfl ?_
      refine st_if hK rfl rfl (fun _ => ?_) (fun c => absurd (by rw [p0]; decide) c)
      refine st_go hK rfl rfl ?_
      refine st_tabk (t := 52) hK rfl (by decide) ?_
      refine st_go hK rfl rfl ?_
      refine st_getr hK rfl qf_0_2 ?_
      refine gi (v := σ 30 6) hK rfl qf_30_6 rfl ?_
      refine st_ret hK rfl rfl ?_
      have e : tvC σ s 1 = σ 30 6 := by
        unfold tvC
        rw [if_neg (by decide), if_neg (fun z => z h1), p2]
        rfl
      rw [← e]
      exact kk
    · skip
      refine zi (L := [some (.ref 0), some (.int (2 : Int32))]) rfl rfl (fun K hK => ?_)
      refine st_go hK rfl rfl ?_
      refine st_if hK rfl rfl (fun _ => ?_) (fun c => absurd (by decide) c)
      refine st_go hK rfl rfl ?_
      refine st_getr hK rfl qf_0_2 ?_
      refine gi (v := σ 30 5) hK rfl qf_30_5 rfl ?_
      refine st_if hK rfl rfl (fun _ => ?_) (fun c => absurd (by rw [p0]; decide) c)
      refine st_go hK rfl rfl ?_
      refine st_tabk (t := 60) hK rfl (by decide) ?_
      refine st_go hK rfl rfl ?_
      refine st_getr hK rfl qf_0_2 ?_
      refine gi (v := σ 30 7) hK rfl qf_30_7 rfl ?_
      refine st_ret hK rfl rfl ?_
      have e : tvC σ s 2 = σ 30 7 := by
        unfold tvC
        rw [if_neg (by decide), if_neg (fun z => z h1), p3]
        rfl
      rw [← e]
      exact kk
    · skip
      refine zi (L := [some (.ref 0), some (.int (3 : Int32))]) rfl rfl (fun K hK => ?_)
      refine st_go hK rfl rfl ?_
      refine st_if hK rfl rfl (fun _ => ?_) (fun c => absurd (by decide) c)
      refine st_go hK rfl rfl ?_
      refine st_getr hK rfl qf_0_2 ?_
      refine gi (v := σ 30 5) hK rfl qf_30_5 rfl ?_
      refine st_if hK rfl rfl (fun _ => ?_) (fun c => absurd (by rw [p0]; decide) c)
      refine st_go hK rfl rfl ?_
      refine st_tabk (t := 68) hK rfl (by decide) ?_
      refine st_go hK rfl rfl ?_
      refine st_getr hK rfl qf_0_2 ?_
      refine gi (v := σ 30 9) hK rfl qf_30_9 rfl ?_
      refine st_ret hK rfl rfl ?_
      have e : tvC σ s 3 = σ 30 9 := by
        unfold tvC
        rw [if_neg (by decide), if_neg (fun z => z h1), p6]
        rfl
      rw [← e]
      exact kk
    · skip
      refine zi (L := [some (.ref 0), some (.int (4 : Int32))]) rfl rfl (fun K hK => ?_)
      refine st_go hK rfl rfl ?_
      refine st_if hK rfl rfl (fun _ => ?_) (fun c => absurd (by decide) c)
      refine st_go hK rfl rfl ?_
      refine st_getr hK rfl qf_0_2 ?_
      refine gi (v := σ 30 5) hK rfl qf_30_5 rfl ?_
      refine st_if hK rfl rfl (fun _ => ?_) (fun c => absurd (by rw [p0]; decide) c)
      refine st_go hK rfl rfl ?_
      refine st_tabk (t := 76) hK rfl (by decide) ?_
      refine st_go hK rfl rfl ?_
      refine st_getr hK rfl qf_0_2 ?_
      refine gi (v := σ 30 8) hK rfl qf_30_8 rfl ?_
      refine st_ret hK rfl rfl ?_
      have e : tvC σ s 4 = σ 30 8 := by
        unfold tvC
        rw [if_neg (by decide), if_neg (fun z => z h1), p4]
        rfl
      rw [← e]
      exact kk
  · have p0 := hP.1 h1
    rcases (show j = 0 ∨ j = 1 ∨ j = 2 ∨ j = 3 ∨ j = 4 by omega) with rfl | rfl | rfl | rfl | rfl
    · skip
      refine zi (L := [some (.ref 0), some (.int (0 : Int32))]) rfl rfl (fun K hK => ?_)
      refine st_go hK rfl rfl ?_
      refine st_if hK rfl rfl (fun c => absurd c (by decide)) (fun _ => ?_)
      refine st_go hK rfl rfl ?_
      refine st_getr hK rfl qf_0_1 ?_
      refine gi (v := σ 10 6) hK rfl qf_10_6 rfl ?_
      refine st_ret hK rfl rfl ?_
      have e : σ 10 6 = costOf σ 1 := hM.2.2.2.2.trans dn_cost
      rw [e]
      exact kk
    · skip
      refine zi (L := [some (.ref 0), some (.int (1 : Int32))]) rfl rfl (fun K hK => ?_)
      refine st_go hK rfl rfl ?_
      refine st_if hK rfl rfl (fun _ => ?_) (fun c => absurd (by decide) c)
      refine st_go hK rfl rfl ?_
      refine st_getr hK rfl qf_0_2 ?_
      refine gi (v := σ 30 5) hK rfl qf_30_5 rfl ?_
      refine st_if hK rfl rfl (fun c => absurd c (fun z => z p0)) (fun _ => ?_)
      refine st_go hK rfl rfl ?_
      refine st_ret hK rfl rfl ?_
      have e : tvC σ s 1 = -1 := by
        unfold tvC
        rw [if_neg (by decide), if_pos h1]
      rw [e] at kk
      exact kk
    · skip
      refine zi (L := [some (.ref 0), some (.int (2 : Int32))]) rfl rfl (fun K hK => ?_)
      refine st_go hK rfl rfl ?_
      refine st_if hK rfl rfl (fun _ => ?_) (fun c => absurd (by decide) c)
      refine st_go hK rfl rfl ?_
      refine st_getr hK rfl qf_0_2 ?_
      refine gi (v := σ 30 5) hK rfl qf_30_5 rfl ?_
      refine st_if hK rfl rfl (fun c => absurd c (fun z => z p0)) (fun _ => ?_)
      refine st_go hK rfl rfl ?_
      refine st_ret hK rfl rfl ?_
      have e : tvC σ s 2 = -1 := by
        unfold tvC
        rw [if_neg (by decide), if_pos h1]
      rw [e] at kk
      exact kk
    · skip
      refine zi (L := [some (.ref 0), some (.int (3 : Int32))]) rfl rfl (fun K hK => ?_)
      refine st_go hK rfl rfl ?_
      refine st_if hK rfl rfl (fun _ => ?_) (fun c => absurd (by decide) c)
      refine st_go hK rfl rfl ?_
      refine st_getr hK rfl qf_0_2 ?_
      refine gi (v := σ 30 5) hK rfl qf_30_5 rfl ?_
      refine st_if hK rfl rfl (fun c => absurd c (fun z => z p0)) (fun _ => ?_)
      refine st_go hK rfl rfl ?_
      refine st_ret hK rfl rfl ?_
      have e : tvC σ s 3 = -1 := by
        unfold tvC
        rw [if_neg (by decide), if_pos h1]
      rw [e] at kk
      exact kk
    · skip
      refine zi (L := [some (.ref 0), some (.int (4 : Int32))]) rfl rfl (fun K hK => ?_)
      refine st_go hK rfl rfl ?_
      refine st_if hK rfl rfl (fun _ => ?_) (fun c => absurd (by decide) c)
      refine st_go hK rfl rfl ?_
      refine st_getr hK rfl qf_0_2 ?_
      refine gi (v := σ 30 5) hK rfl qf_30_5 rfl ?_
      refine st_if hK rfl rfl (fun c => absurd c (fun z => z p0)) (fun _ => ?_)
      refine st_go hK rfl rfl ?_
      refine st_ret hK rfl rfl ?_
      have e : tvC σ s 4 = -1 := by
        unfold tvC
        rw [if_neg (by decide), if_pos h1]
      rw [e] at kk
      exact kk
theorem TI.tq (h : TI σ τ) : TQ σ τ := ⟨fun p h0 h1 => h.1 p h0 (by omega), fun k h0 h1 => h.2 k h0⟩
theorem z_totalBy {j : Nat} (hM : MW σ s) (hV : VR (mv σ) 1 s) (hj : j ≤ 4) (kk : ∀ τ, TQ σ τ → Q (some (.int (tvC (mv σ) s j))) (cw_B τ lam)) : cw_Z (d + 6) m_Mo_totalBy [.ref 146, .int (nI j)] (cw_B σ lam) Q := by
  have hWm := hM.wf
  by_cases h1 : (tlF (mv σ) 1 15).length = 1
  · obtain ⟨top', u1, u2, u3, u4, u5⟩ := one_top hWm h1
    obtain ⟨pd, ps⟩ := pos_top hWm h1
    have hD : ∀ (U : Int32 → Nat → Int32), csL U (((dnF (mv σ) 1).drop 1).take ((dnF (mv σ) 1).length - 1)) 0 = rs (fun n => if nI n ∈ (dnF (mv σ) 1).drop 1 then U (nI n) 7 else 0) 15 := fun U => by
      rw [List.take_of_length_le (by rw [List.length_drop]; omega), cs_rs _ ((List.drop_sublist 1 _).nodup (dn_nodup hWm)) (fun x hx => ?_) 0, Int32.zero_add]
      obtain ⟨i, hi, e⟩ := List.mem_iff_getElem.mp (List.mem_of_mem_drop hx)
      obtain ⟨m, m1, m2, -⟩ := (dn_ok hWm).1 i hi
      rw [List.getD_eq_getElem?_getD, List.getElem?_eq_getElem hi, Option.getD_some, e] at m2
      exact ⟨m, m1, m2⟩
    have hf : ∀ (c : Bool) n, n < 15 → (nodeN s (σ 151) n → n ≠ top' → (if nI n ∈ (dnF (mv σ) 1).drop 1 then lpG σ c n else 0) = lpG σ c n) ∧ (¬ (nodeN s (σ 151) n ∧ n ≠ top') → (if nI n ∈ (dnF (mv σ) 1).drop 1 then lpG σ c n else 0) = 0) := fun c n hn => by
      have q := dn_rest hWm (n := n) u1 u4 pd hn
      exact ⟨fun a b => if_pos (q.mpr ⟨a, b⟩), fun a => if_neg (fun z => a (q.mp z))⟩
    have e2 : lsF (Ev (mv σ)) (dnF (mv σ) 1) (dnF (mv σ) 1).length = rs (fun n => if nI n ∈ (dnF (mv σ) 1).drop 1 then lpG σ false n else 0) 15 := by
      obtain ⟨m, hm⟩ : ∃ m, (dnF (mv σ) 1).length = m + 1 := ⟨_, (Nat.succ_pred_eq_of_pos pd).symm⟩
      have := hD (fun x _ => Ev (mv σ) x 2)
      rw [hm, Nat.add_sub_cancel] at this
      rw [hm, ls_cs m (by omega), this]
      rfl
    have e4 : lcF (Ev (mv σ)) (dnF (mv σ) 1) (dnF (mv σ) 1).length = rs (fun n => if nI n ∈ (dnF (mv σ) 1).drop 1 then lpG σ true n else 0) 15 := by
      obtain ⟨m, hm⟩ : ∃ m, (dnF (mv σ) 1).length = m + 1 := ⟨_, (Nat.succ_pred_eq_of_pos pd).symm⟩
      have := hD (fun x _ => if 0 < Ev (mv σ) x 2 then 1 else 0)
      rw [hm, Nat.add_sub_cancel] at this
      rw [hm, lc_cs m (by omega), this]
      rfl
    rcases (show j = 0 ∨ j = 1 ∨ j = 2 ∨ j = 3 ∨ j = 4 by omega) with rfl | rfl | rfl | rfl | rfl
    · skip
      refine zi (L := [some (.ref 146), some (.int (0 : Int32))]) rfl rfl (fun K hK => ?_)
      refine st_go hK rfl rfl ?_
      refine st_if hK rfl rfl (fun c => absurd c (by decide)) (fun _ => ?_)
      refine st_go hK rfl rfl ?_
      refine cv0 hK rfl qc_146 (Nat.le_of_ble_eq_true rfl) ?_
      refine z_costOfAll hM (fun τ hT => ?_)
      change K _ _ (_ :: _) _
      refine st_ret hK rfl rfl ?_
      exact kk τ hT.1.tq
    · skip
      refine zi (L := [some (.ref 146), some (.int (1 : Int32))]) rfl rfl (fun K hK => ?_)
      refine st_go hK rfl rfl ?_
      refine st_if hK rfl rfl (fun _ => ?_) (fun c => absurd (by decide) c)
      refine st_go hK rfl rfl ?_
      refine cv0 hK rfl qc_146 (Nat.le_of_ble_eq_true rfl) ?_
      refine z_areLaid1 hM hV h1 (fun τ top hA t1 t2 => ?_)
      obtain rfl : top = top' := u5 top t1 t2
      change K _ _ (_ :: _) _
      refine st_if hK rfl rfl (fun _ => ?_) (fun c => absurd (by decide) c)
      refine st_go hK rfl rfl ?_
      refine st_go hK rfl rfl ?_
      refine st_if hK rfl rfl (fun c => absurd c (by decide)) (fun _ => ?_)
      refine st_go hK rfl rfl ?_
      refine cv0 hK rfl qc_146 (Nat.le_of_ble_eq_true rfl) ?_
      refine z_mtrunk hM hA t1 t2 ?_
      change K _ _ (_ :: _) _
      refine st_go hK rfl rfl ?_
      refine st_ret hK rfl rfl ?_
      have e : tvC (mv σ) s 1 = mE σ (nI top) 3 := by
        unfold tvC
        rw [if_neg (by decide), if_neg (fun z => z h1), if_pos rfl, u4]
        rfl
      rw [← e]
      exact kk τ hA.1
    · skip
      refine zi (L := [some (.ref 146), some (.int (2 : Int32))]) rfl rfl (fun K hK => ?_)
      refine st_go hK rfl rfl ?_
      refine st_if hK rfl rfl (fun _ => ?_) (fun c => absurd (by decide) c)
      refine st_go hK rfl rfl ?_
      refine cv0 hK rfl qc_146 (Nat.le_of_ble_eq_true rfl) ?_
      refine z_areLaid1 hM hV h1 (fun τ top hA t1 t2 => ?_)
      obtain rfl : top = top' := u5 top t1 t2
      change K _ _ (_ :: _) _
      refine st_if hK rfl rfl (fun _ => ?_) (fun c => absurd (by decide) c)
      refine st_go hK rfl rfl ?_
      refine st_go hK rfl rfl ?_
      refine st_if hK rfl rfl (fun _ => ?_) (fun c => absurd (by decide) c)
      refine st_go hK rfl rfl ?_
      refine st_go hK rfl rfl ?_
      refine st_if hK rfl rfl (fun _ => ?_) (fun c => absurd (by decide) c)
      refine st_go hK rfl rfl ?_
      refine st_go hK rfl rfl ?_
      refine st_go hK rfl rfl ?_
      refine st_if hK rfl rfl (fun _ => ?_) (fun c => absurd (by decide) c)
      refine st_go hK rfl rfl ?_
      refine cv1 hK rfl qc_146 (Nat.le_of_ble_eq_true rfl) ?_
      refine z_loops (c := false) hM hA t1 t2 u5 (hf false) ?_
      change K _ _ (_ :: _) _
      refine st_ret hK rfl rfl ?_
      have e : tvC (mv σ) s 2 = rs (fun n => if nI n ∈ (dnF (mv σ) 1).drop 1 then lpG σ false n else 0) 15 := by
        unfold tvC
        rw [if_neg (by decide), if_neg (fun z => z h1), if_neg (by decide), if_pos rfl]
        exact e2
      rw [← e]
      exact kk τ hA.1
    · skip
      refine zi (L := [some (.ref 146), some (.int (3 : Int32))]) rfl rfl (fun K hK => ?_)
      refine st_go hK rfl rfl ?_
      refine st_if hK rfl rfl (fun _ => ?_) (fun c => absurd (by decide) c)
      refine st_go hK rfl rfl ?_
      refine cv0 hK rfl qc_146 (Nat.le_of_ble_eq_true rfl) ?_
      refine z_areLaid1 hM hV h1 (fun τ top hA t1 t2 => ?_)
      obtain rfl : top = top' := u5 top t1 t2
      change K _ _ (_ :: _) _
      refine st_if hK rfl rfl (fun _ => ?_) (fun c => absurd (by decide) c)
      refine st_go hK rfl rfl ?_
      refine st_go hK rfl rfl ?_
      refine st_if hK rfl rfl (fun _ => ?_) (fun c => absurd (by decide) c)
      refine st_go hK rfl rfl ?_
      refine st_go hK rfl rfl ?_
      refine st_if hK rfl rfl (fun c => absurd c (by decide)) (fun _ => ?_)
      refine st_go hK rfl rfl ?_
      refine cv0 hK rfl qc_146 (Nat.le_of_ble_eq_true rfl) ?_
      refine z_spread hM hA t1 t2 u5 ps ?_
      change K _ _ (_ :: _) _
      refine st_go hK rfl rfl ?_
      refine st_ret hK rfl rfl ?_
      have e : tvC (mv σ) s 3 = (sprF (arE (mv σ)) (s - 1) 1 (arE (mv σ) 0, arE (mv σ) 0)).2 - (sprF (arE (mv σ)) (s - 1) 1 (arE (mv σ) 0, arE (mv σ) 0)).1 := by
        unfold tvC
        rw [if_neg (by decide), if_neg (fun z => z h1), if_neg (by decide), if_neg (by decide), if_pos rfl]
      rw [← e]
      exact kk τ hA.1
    · skip
      refine zi (L := [some (.ref 146), some (.int (4 : Int32))]) rfl rfl (fun K hK => ?_)
      refine st_go hK rfl rfl ?_
      refine st_if hK rfl rfl (fun _ => ?_) (fun c => absurd (by decide) c)
      refine st_go hK rfl rfl ?_
      refine cv0 hK rfl qc_146 (Nat.le_of_ble_eq_true rfl) ?_
      refine z_areLaid1 hM hV h1 (fun τ top hA t1 t2 => ?_)
      obtain rfl : top = top' := u5 top t1 t2
      change K _ _ (_ :: _) _
      refine st_if hK rfl rfl (fun _ => ?_) (fun c => absurd (by decide) c)
      refine st_go hK rfl rfl ?_
      refine st_go hK rfl rfl ?_
      refine st_if hK rfl rfl (fun _ => ?_) (fun c => absurd (by decide) c)
      refine st_go hK rfl rfl ?_
      refine st_go hK rfl rfl ?_
      refine st_if hK rfl rfl (fun _ => ?_) (fun c => absurd (by decide) c)
      refine st_go hK rfl rfl ?_
      refine st_go hK rfl rfl ?_
      refine st_go hK rfl rfl ?_
      refine st_if hK rfl rfl (fun c => absurd c (by decide)) (fun _ => ?_)
      refine st_go hK rfl rfl ?_
      refine st_go hK rfl rfl ?_
      refine cv1 hK rfl qc_146 (Nat.le_of_ble_eq_true rfl) ?_
      refine z_loops (c := true) hM hA t1 t2 u5 (hf true) ?_
      change K _ _ (_ :: _) _
      refine st_ret hK rfl rfl ?_
      have e : tvC (mv σ) s 4 = rs (fun n => if nI n ∈ (dnF (mv σ) 1).drop 1 then lpG σ true n else 0) 15 := by
        unfold tvC
        rw [if_neg (by decide), if_neg (fun z => z h1), if_neg (by decide), if_neg (by decide), if_neg (by decide)]
        exact e4
      rw [← e]
      exact kk τ hA.1
  · rcases (show j = 0 ∨ j = 1 ∨ j = 2 ∨ j = 3 ∨ j = 4 by omega) with rfl | rfl | rfl | rfl | rfl
    · skip
      refine zi (L := [some (.ref 146), some (.int (0 : Int32))]) rfl rfl (fun K hK => ?_)
      refine st_go hK rfl rfl ?_
      refine st_if hK rfl rfl (fun c => absurd c (by decide)) (fun _ => ?_)
      refine st_go hK rfl rfl ?_
      refine cv0 hK rfl qc_146 (Nat.le_of_ble_eq_true rfl) ?_
      refine z_costOfAll hM (fun τ hT => ?_)
      change K _ _ (_ :: _) _
      refine st_ret hK rfl rfl ?_
      exact kk τ hT.1.tq
    · skip
      refine zi (L := [some (.ref 146), some (.int (1 : Int32))]) rfl rfl (fun K hK => ?_)
      refine st_go hK rfl rfl ?_
      refine st_if hK rfl rfl (fun _ => ?_) (fun c => absurd (by decide) c)
      refine st_go hK rfl rfl ?_
      refine cv0 hK rfl qc_146 (Nat.le_of_ble_eq_true rfl) ?_
      refine z_areLaid0 hM h1 ?_
      change K _ _ (_ :: _) _
      refine st_if hK rfl rfl (fun c => absurd c (by decide)) (fun _ => ?_)
      refine st_go hK rfl rfl ?_
      refine st_ret hK rfl rfl ?_
      have e : tvC (mv σ) s 1 = -1 := by
        unfold tvC
        rw [if_neg (by decide), if_pos h1]
      have := kk σ ⟨fun _ _ _ => rfl, fun _ _ _ => rfl⟩
      rw [e] at this
      exact this
    · skip
      refine zi (L := [some (.ref 146), some (.int (2 : Int32))]) rfl rfl (fun K hK => ?_)
      refine st_go hK rfl rfl ?_
      refine st_if hK rfl rfl (fun _ => ?_) (fun c => absurd (by decide) c)
      refine st_go hK rfl rfl ?_
      refine cv0 hK rfl qc_146 (Nat.le_of_ble_eq_true rfl) ?_
      refine z_areLaid0 hM h1 ?_
      change K _ _ (_ :: _) _
      refine st_if hK rfl rfl (fun c => absurd c (by decide)) (fun _ => ?_)
      refine st_go hK rfl rfl ?_
      refine st_ret hK rfl rfl ?_
      have e : tvC (mv σ) s 2 = -1 := by
        unfold tvC
        rw [if_neg (by decide), if_pos h1]
      have := kk σ ⟨fun _ _ _ => rfl, fun _ _ _ => rfl⟩
      rw [e] at this
      exact this
    · skip
      refine zi (L := [some (.ref 146), some (.int (3 : Int32))]) rfl rfl (fun K hK => ?_)
      refine st_go hK rfl rfl ?_
      refine st_if hK rfl rfl (fun _ => ?_) (fun c => absurd (by decide) c)
      refine st_go hK rfl rfl ?_
      refine cv0 hK rfl qc_146 (Nat.le_of_ble_eq_true rfl) ?_
      refine z_areLaid0 hM h1 ?_
      change K _ _ (_ :: _) _
      refine st_if hK rfl rfl (fun c => absurd c (by decide)) (fun _ => ?_)
      refine st_go hK rfl rfl ?_
      refine st_ret hK rfl rfl ?_
      have e : tvC (mv σ) s 3 = -1 := by
        unfold tvC
        rw [if_neg (by decide), if_pos h1]
      have := kk σ ⟨fun _ _ _ => rfl, fun _ _ _ => rfl⟩
      rw [e] at this
      exact this
    · skip
      refine zi (L := [some (.ref 146), some (.int (4 : Int32))]) rfl rfl (fun K hK => ?_)
      refine st_go hK rfl rfl ?_
      refine st_if hK rfl rfl (fun _ => ?_) (fun c => absurd (by decide) c)
      refine st_go hK rfl rfl ?_
      refine cv0 hK rfl qc_146 (Nat.le_of_ble_eq_true rfl) ?_
      refine z_areLaid0 hM h1 ?_
      change K _ _ (_ :: _) _
      refine st_if hK rfl rfl (fun c => absurd c (by decide)) (fun _ => ?_)
      refine st_go hK rfl rfl ?_
      refine st_ret hK rfl rfl ?_
      have e : tvC (mv σ) s 4 = -1 := by
        unfold tvC
        rw [if_neg (by decide), if_pos h1]
      have := kk σ ⟨fun _ _ _ => rfl, fun _ _ _ => rfl⟩
      rw [e] at this
      exact this
theorem z_jointMany (hM : MW σ s) (kk : Q (some (.int (nI (jcN (mv σ) 1 7)))) (cw_B σ lam)) : cw_Z (d + 1) m_Mo_jointMany [.ref 146] (cw_B σ lam) Q := by
  refine zi (L := [some (.ref 146), none, none]) rfl rfl (fun K hK => ?_)
  have loop : ∀ m i, i + m = 7 → K 5 [some (.ref 146), some (.int (nI (jcN (mv σ) 1 i))), some (.int (nI (8 + i)))] [] (cw_B σ lam) := by
    intro m
    induction m with
    | zero =>
      intro i hi
      obtain rfl : i = 7 := by omega
      refine st_go hK rfl rfl ?_
      refine st_go hK rfl rfl ?_
      refine st_ifn hK rfl rfl (nI_leI (a := 15) (b := 8 + 7) (by omega) (by omega)) (fun _ => ?_) (fun c => absurd (by omega) c)
      refine st_go hK rfl rfl ?_
      refine st_ret hK rfl rfl ?_
      exact kk
    | succ m ih =>
      intro i hi
      refine st_go hK rfl rfl ?_
      refine st_go hK rfl rfl ?_
      refine st_ifn hK rfl rfl (nI_leI (a := 15) (b := 8 + i) (by omega) (by omega)) (fun c => absurd c (by omega)) (fun _ => ?_)
      refine st_go hK rfl rfl ?_
      refine st_go hK rfl rfl ?_
      refine st_getr hK rfl qf_146_8 ?_
      refine st_go hK rfl rfl ?_
      refine ga (e := 8 + i) (v := σ 150 (8 + i)) hK rfl qa_150 rfl (by omega) rfl rfl ?_
      refine bnv (v := nI (jcN (mv σ) 1 (i + 1))) hK rfl (hM.jc (by omega)) ?_
      refine st_go hK rfl rfl ?_
      change K _ [some (.ref 146), some (.int (nI (jcN (mv σ) 1 (i + 1)))), some (.int (nI (8 + i)))] _ _
      refine st_go hK rfl rfl ?_
      rw [nI_1]
      refine st_go hK rfl rfl ?_
      exact ih (i + 1) (by omega)
  refine st_go hK rfl rfl ?_
  refine st_go hK rfl rfl ?_
  refine st_go hK rfl rfl ?_
  refine st_go hK rfl rfl ?_
  exact loop 7 0 (by omega)
/-- the counts -/
def tdC (σ : cw_V) (j : Nat) : Int32 := if j < 3 then σ 0 (6 + j) else if j = 3 then σ 1 8 else if j = 4 then nI (jcN σ 1 7) else if j < 8 then σ 1 (4 + j) else if j = 8 then σ 140 5 else σ 66 2
theorem z_toldValue {j : Nat} (hj : j ≤ 9) (kk : Q (some (.int (tdC σ j))) (cw_B σ lam)) : cw_Z (d + 3) m_CW_toldValue [.ref 0, .int (nI j)] (cw_B σ lam) Q := by
  rcases (show j = 0 ∨ j = 1 ∨ j = 2 ∨ j = 3 ∨ j = 4 ∨ j = 5 ∨ j = 6 ∨ j = 7 ∨ j = 8 ∨ j = 9 by omega) with rfl | rfl | rfl | rfl | rfl | rfl | rfl | rfl | rfl | rfl
  · skip
    refine zi (L := [some (.ref 0), some (.int (0 : Int32))]) rfl rfl (fun K hK => ?_)
    refine st_go hK rfl rfl ?_
    refine st_tabk (t := 52) hK rfl (by decide) ?_
    refine st_go hK rfl rfl ?_
    refine gi (v := σ 0 6) hK rfl qf_0_6 rfl ?_
    refine st_ret hK rfl rfl ?_
    exact kk
  · skip
    refine zi (L := [some (.ref 0), some (.int (1 : Int32))]) rfl rfl (fun K hK => ?_)
    refine st_go hK rfl rfl ?_
    refine st_tabk (t := 57) hK rfl (by decide) ?_
    refine st_go hK rfl rfl ?_
    refine gi (v := σ 0 7) hK rfl qf_0_7 rfl ?_
    refine st_ret hK rfl rfl ?_
    exact kk
  · skip
    refine zi (L := [some (.ref 0), some (.int (2 : Int32))]) rfl rfl (fun K hK => ?_)
    refine st_go hK rfl rfl ?_
    refine st_tabk (t := 62) hK rfl (by decide) ?_
    refine st_go hK rfl rfl ?_
    refine gi (v := σ 0 8) hK rfl qf_0_8 rfl ?_
    refine st_ret hK rfl rfl ?_
    exact kk
  · skip
    refine zi (L := [some (.ref 0), some (.int (3 : Int32))]) rfl rfl (fun K hK => ?_)
    refine st_go hK rfl rfl ?_
    refine st_tabk (t := 67) hK rfl (by decide) ?_
    refine st_go hK rfl rfl ?_
    refine st_getr hK rfl qf_0_0 ?_
    refine gi (v := σ 1 8) hK rfl qf_1_8 rfl ?_
    refine st_ret hK rfl rfl ?_
    exact kk
  · skip
    refine zi (L := [some (.ref 0), some (.int (4 : Int32))]) rfl rfl (fun K hK => ?_)
    refine st_go hK rfl rfl ?_
    refine st_tabk (t := 75) hK rfl (by decide) ?_
    refine st_go hK rfl rfl ?_
    refine st_getr hK rfl qf_0_0 ?_
    refine cv0 hK rfl qc_1 (Nat.le_of_ble_eq_true rfl) ?_
    refine z_jointCount hT1 ?_
    change K _ _ (_ :: _) _
    refine st_ret hK rfl rfl ?_
    exact kk
  · skip
    refine zi (L := [some (.ref 0), some (.int (5 : Int32))]) rfl rfl (fun K hK => ?_)
    refine st_go hK rfl rfl ?_
    refine st_tabk (t := 83) hK rfl (by decide) ?_
    refine st_go hK rfl rfl ?_
    refine st_getr hK rfl qf_0_0 ?_
    refine gi (v := σ 1 9) hK rfl qf_1_9 rfl ?_
    refine st_ret hK rfl rfl ?_
    exact kk
  · skip
    refine zi (L := [some (.ref 0), some (.int (6 : Int32))]) rfl rfl (fun K hK => ?_)
    refine st_go hK rfl rfl ?_
    refine st_tabk (t := 91) hK rfl (by decide) ?_
    refine st_go hK rfl rfl ?_
    refine st_getr hK rfl qf_0_0 ?_
    refine gi (v := σ 1 10) hK rfl qf_1_10 rfl ?_
    refine st_ret hK rfl rfl ?_
    exact kk
  · skip
    refine zi (L := [some (.ref 0), some (.int (7 : Int32))]) rfl rfl (fun K hK => ?_)
    refine st_go hK rfl rfl ?_
    refine st_tabk (t := 99) hK rfl (by decide) ?_
    refine st_go hK rfl rfl ?_
    refine st_getr hK rfl qf_0_0 ?_
    refine gi (v := σ 1 11) hK rfl qf_1_11 rfl ?_
    refine st_ret hK rfl rfl ?_
    exact kk
  · skip
    refine zi (L := [some (.ref 0), some (.int (8 : Int32))]) rfl rfl (fun K hK => ?_)
    refine st_go hK rfl rfl ?_
    refine st_tabk (t := 107) hK rfl (by decide) ?_
    refine st_go hK rfl rfl ?_
    refine st_getr hK rfl qf_0_5 ?_
    refine gi (v := σ 140 5) hK rfl qf_140_5 rfl ?_
    refine st_ret hK rfl rfl ?_
    exact kk
  · skip
    refine zi (L := [some (.ref 0), some (.int (9 : Int32))]) rfl rfl (fun K hK => ?_)
    refine st_go hK rfl rfl ?_
    refine st_tabk (t := 115) hK rfl (by decide) ?_
    refine st_go hK rfl rfl ?_
    refine st_getr hK rfl qf_0_4 ?_
    refine gi (v := σ 66 2) hK rfl qf_66_2 rfl ?_
    refine st_ret hK rfl rfl ?_
    exact kk
theorem z_toldBy {j : Nat} {σ0 : cw_V} (hI : INV σ0 lam s nx c L) (hm : ∀ p, 145 < p → p ≠ 146 → p < 156 → σ p = σ0 p) (hm2 : ∀ k, (k < 25 ∨ k = 36) → σ 146 k = σ0 146 k) (hj : j ≤ 9) (kk : Q (some (.int (tdC σ0 j))) (cw_B σ lam)) : cw_Z (d + 2) m_Mo_toldBy [.ref 146, .int (nI j)] (cw_B σ lam) Q := by
  obtain ⟨⟨g, md, pd, lk⟩, ⟨mw, te, e6⟩, ⟨c0, c1, c2⟩, ⟨⟨i1, i2, i3, i4, i5⟩, hi⟩, tx⟩ := hI
  have mwt : MW σ s := mw.cg (hm2 1 (by omega)) (fun p h1 h2 => hm p (by omega) (by omega) (by omega))
  have emv : mv σ = mv σ0 := mv_cg (fun k hk => hm2 k (by omega)) (fun p h1 h2 => hm p (by omega) (by omega) (by omega))
  have ej : jcN (mv σ) 1 7 = jcN σ0 1 7 := by rw [emv]; exact jc_te te 7 (by omega)
  have r147 : ∀ k, σ 147 k = σ0 147 k := fun k => congrFun (hm 147 (by omega) (by omega) (by omega)) k
  have v0 : σ 147 0 = σ0 0 6 := (r147 0).trans c0
  have v1 : σ 147 1 = σ0 0 7 := (r147 1).trans c1
  have v2 : σ 147 2 = σ0 0 8 := (r147 2).trans c2
  have v3 : σ 146 1 = σ0 1 8 := (hm2 1 (by omega)).trans te.e8
  have v5 : σ 146 3 = σ0 1 9 := (hm2 3 (by omega)).trans te.e9
  have v6 : σ 146 4 = σ0 1 10 := (hm2 4 (by omega)).trans (te.2.2 10 (by decide) (by decide))
  have v7 : σ 146 5 = σ0 1 11 := (hm2 5 (by omega)).trans (te.2.2 11 (by decide) (by decide))
  have v8 : σ 146 36 = σ0 140 5 := ((hm2 36 (by omega)).trans tx.2.2.1).trans tx.2.1.symm
  have v9 : σ 146 13 = σ0 66 2 := ((hm2 13 (by omega)).trans i5).trans i4.symm
  rcases (show j = 0 ∨ j = 1 ∨ j = 2 ∨ j = 3 ∨ j = 4 ∨ j = 5 ∨ j = 6 ∨ j = 7 ∨ j = 8 ∨ j = 9 by omega) with rfl | rfl | rfl | rfl | rfl | rfl | rfl | rfl | rfl | rfl
  · skip
    refine zi (L := [some (.ref 146), some (.int (0 : Int32))]) rfl rfl (fun K hK => ?_)
    refine st_go hK rfl rfl ?_
    refine st_tabk (t := 52) hK rfl (by decide) ?_
    refine st_go hK rfl rfl ?_
    refine st_getr hK rfl qf_146_0 ?_
    refine st_go hK rfl rfl ?_
    refine ga (e := 0) (v := σ0 0 6) hK rfl qa_147 rfl (by decide) rfl v0 ?_
    refine st_ret hK rfl rfl ?_
    exact kk
  · skip
    refine zi (L := [some (.ref 146), some (.int (1 : Int32))]) rfl rfl (fun K hK => ?_)
    refine st_go hK rfl rfl ?_
    refine st_tabk (t := 52) hK rfl (by decide) ?_
    refine st_go hK rfl rfl ?_
    refine st_getr hK rfl qf_146_0 ?_
    refine st_go hK rfl rfl ?_
    refine ga (e := 1) (v := σ0 0 7) hK rfl qa_147 rfl (by decide) rfl v1 ?_
    refine st_ret hK rfl rfl ?_
    exact kk
  · skip
    refine zi (L := [some (.ref 146), some (.int (2 : Int32))]) rfl rfl (fun K hK => ?_)
    refine st_go hK rfl rfl ?_
    refine st_tabk (t := 52) hK rfl (by decide) ?_
    refine st_go hK rfl rfl ?_
    refine st_getr hK rfl qf_146_0 ?_
    refine st_go hK rfl rfl ?_
    refine ga (e := 2) (v := σ0 0 8) hK rfl qa_147 rfl (by decide) rfl v2 ?_
    refine st_ret hK rfl rfl ?_
    exact kk
  · skip
    refine zi (L := [some (.ref 146), some (.int (3 : Int32))]) rfl rfl (fun K hK => ?_)
    refine st_go hK rfl rfl ?_
    refine st_tabk (t := 59) hK rfl (by decide) ?_
    refine st_go hK rfl rfl ?_
    refine gi (v := σ0 1 8) hK rfl qf_146_1 v3 ?_
    refine st_ret hK rfl rfl ?_
    exact kk
  · skip
    refine zi (L := [some (.ref 146), some (.int (4 : Int32))]) rfl rfl (fun K hK => ?_)
    refine st_go hK rfl rfl ?_
    refine st_tabk (t := 64) hK rfl (by decide) ?_
    refine st_go hK rfl rfl ?_
    refine cv0 hK rfl qc_146 (Nat.le_of_ble_eq_true rfl) ?_
    refine z_jointMany mwt ?_
    rw [ej]
    change K _ _ (_ :: _) _
    refine st_ret hK rfl rfl ?_
    exact kk
  · skip
    refine zi (L := [some (.ref 146), some (.int (5 : Int32))]) rfl rfl (fun K hK => ?_)
    refine st_go hK rfl rfl ?_
    refine st_tabk (t := 69) hK rfl (by decide) ?_
    refine st_go hK rfl rfl ?_
    refine gi (v := σ0 1 9) hK rfl qf_146_3 v5 ?_
    refine st_ret hK rfl rfl ?_
    exact kk
  · skip
    refine zi (L := [some (.ref 146), some (.int (6 : Int32))]) rfl rfl (fun K hK => ?_)
    refine st_go hK rfl rfl ?_
    refine st_tabk (t := 74) hK rfl (by decide) ?_
    refine st_go hK rfl rfl ?_
    refine gi (v := σ0 1 10) hK rfl qf_146_4 v6 ?_
    refine st_ret hK rfl rfl ?_
    exact kk
  · skip
    refine zi (L := [some (.ref 146), some (.int (7 : Int32))]) rfl rfl (fun K hK => ?_)
    refine st_go hK rfl rfl ?_
    refine st_tabk (t := 79) hK rfl (by decide) ?_
    refine st_go hK rfl rfl ?_
    refine gi (v := σ0 1 11) hK rfl qf_146_5 v7 ?_
    refine st_ret hK rfl rfl ?_
    exact kk
  · skip
    refine zi (L := [some (.ref 146), some (.int (8 : Int32))]) rfl rfl (fun K hK => ?_)
    refine st_go hK rfl rfl ?_
    refine st_tabk (t := 84) hK rfl (by decide) ?_
    refine st_go hK rfl rfl ?_
    refine gi (v := σ0 140 5) hK rfl qf_146_36 v8 ?_
    refine st_ret hK rfl rfl ?_
    exact kk
  · skip
    refine zi (L := [some (.ref 146), some (.int (9 : Int32))]) rfl rfl (fun K hK => ?_)
    refine st_go hK rfl rfl ?_
    refine st_tabk (t := 89) hK rfl (by decide) ?_
    refine st_go hK rfl rfl ?_
    refine gi (v := σ0 66 2) hK rfl qf_146_13 v9 ?_
    refine st_ret hK rfl rfl ?_
    exact kk
end

