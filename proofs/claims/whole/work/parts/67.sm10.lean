/-! THE CALLS: shown -/
section
variable {s : Nat} {lf rt pa : Nat → Int32} {ρ : Nat → Nat}
/-- the text of a node -/
def txF (lf rt : Nat → Int32) : Nat → Nat → List Int32
  | 0, _ => []
  | f + 1, m => if m < 8 then [nI (48 + m)] else 40 :: (txF lf rt f (lf m).toNatClampNeg ++ (txF lf rt f (rt m).toNatClampNeg ++ [41]))
theorem tx_st (hW : WFt s lf rt pa) (hρ : Dep s lf pa ρ) : ∀ h m f f', nodeN s lf m → 7 ≤ ρ m + h → h < f → h < f' → txF lf rt f m = txF lf rt f' m := by
  intro h
  induction h with
  | zero =>
    intro m f f' hm hr hf hf'
    obtain ⟨f, rfl⟩ : ∃ g, f = g + 1 := ⟨f - 1, by omega⟩
    obtain ⟨f', rfl⟩ : ∃ g, f' = g + 1 := ⟨f' - 1, by omega⟩
    rcases hm with z | ⟨z1, z2, z3⟩
    · have h8 := hW.1
      unfold txF
      rw [if_pos (by omega), if_pos (by omega)]
    · obtain ⟨a, b, ea, eb, na, nb, nab, pa_a, pa_b⟩ := hW.dn z1 z2 z3
      have ra := (hρ a na).2 m z2 pa_a
      have := hW.depth hρ na
      omega
  | succ h ih =>
    intro m f f' hm hr hf hf'
    obtain ⟨f, rfl⟩ : ∃ g, f = g + 1 := ⟨f - 1, by omega⟩
    obtain ⟨f', rfl⟩ : ∃ g, f' = g + 1 := ⟨f' - 1, by omega⟩
    rcases hm with z | ⟨z1, z2, z3⟩
    · have h8 := hW.1
      unfold txF
      rw [if_pos (by omega), if_pos (by omega)]
    · obtain ⟨a, b, ea, eb, na, nb, nab, pa_a, pa_b⟩ := hW.dn z1 z2 z3
      have ra := (hρ a na).2 m z2 pa_a
      have rb := (hρ b nb).2 m z2 pa_b
      have la := hW.lt na
      have lb := hW.lt nb
      unfold txF
      rw [if_neg (by omega), if_neg (by omega), ea, eb, nI_clamp (by omega), nI_clamp (by omega), ih a f f' na (by omega) (by omega) (by omega), ih b f f' nb (by omega) (by omega) (by omega)]
def gtx (l : List Int32) (i : Nat) : Int32 := (l[i]?).getD (-1)
theorem gtx_none {l : List Int32} {i : Nat} (h : l.length ≤ i) : gtx l i = -1 := by unfold gtx; rw [List.getElem?_eq_none h]; rfl
theorem gtx_0 {x : Int32} {l : List Int32} : gtx (x :: l) 0 = x := rfl
theorem gtx_s {x : Int32} {l : List Int32} {i : Nat} : gtx (x :: l) (i + 1) = gtx l i := rfl
theorem gtx_l {l l' : List Int32} {i : Nat} (h : i < l.length) : gtx (l ++ l') i = gtx l i := by unfold gtx; rw [List.getElem?_append_left h]
theorem gtx_r {l l' : List Int32} {i : Nat} (h : l.length ≤ i) : gtx (l ++ l') i = gtx l' (i - l.length) := by unfold gtx; rw [List.getElem?_append_right h]
end
/-- texts of all nodes -/
def TxW (σ : cw_V) (s : Nat) (W : Nat → List Int32) : Prop := (∀ m, m < s → W m = [nI (48 + m)]) ∧ ∀ m a b, 8 ≤ m → m < 15 → σ 7 m ≠ -1 → σ 7 m = nI a → σ 8 m = nI b → a < 15 → b < 15 → W m = 40 :: (W a ++ (W b ++ [41]))
theorem tx_ex {σ : cw_V} {s : Nat} (hW : WF σ 1 s) : TxW σ s (txF (σ 7) (σ 8) 8) := by
  obtain ⟨ρ, hρ⟩ := hW.2.2.2.2.2.2
  have h8 := hW.2.1
  refine ⟨fun m hm => ?_, fun m a b m8 m15 hl ea eb a15 b15 => ?_⟩
  · unfold txF
    rw [if_pos (by omega)]
  · obtain ⟨a', b', ea', eb', na, nb, nab, pa_a, pa_b⟩ := hW.2.dn m8 m15 hl
    have la := hW.2.lt na
    have lb := hW.2.lt nb
    have ra := (hρ a' na).2 m m15 pa_a
    have rb := (hρ b' nb).2 m m15 pa_b
    obtain rfl : a = a' := nI_inj (by omega) (by omega) (ea.symm.trans ea')
    obtain rfl : b = b' := nI_inj (by omega) (by omega) (eb.symm.trans eb')
    show (if m < 8 then _ else 40 :: (txF (σ 7) (σ 8) 7 (σ 7 m).toNatClampNeg ++ (txF (σ 7) (σ 8) 7 (σ 8 m).toNatClampNeg ++ [41]))) = _
    rw [if_neg (by omega), ea, eb, nI_clamp (by omega), nI_clamp (by omega), tx_st hW.2 hρ 6 a 7 8 na (by omega) (by omega) (by omega), tx_st hW.2 hρ 6 b 7 8 nb (by omega) (by omega) (by omega)]
section
variable {d s : Nat} {σ υ : cw_V} {lam : Nat → Int64} {Q : cw_Q} {ρ : Nat → Nat} {W : Nat → List Int32}
theorem tx_len (hW : WF σ 1 s) (hρ : Dep s (σ 7) (σ 9) ρ) (hT : TxW σ s W) : ∀ h m, nodeN s (σ 7) m → 7 ≤ ρ m + h → ∃ c, 1 ≤ c ∧ c ≤ 2 ^ h ∧ UV σ 1 (nI m) 8 = nI c ∧ (W m).length + 2 = 3 * c := by
  have hU := UV_lab hW
  have h8 := hW.2.1
  have sk : ∀ h m, m < s → ∃ c, 1 ≤ c ∧ c ≤ 2 ^ h ∧ UV σ 1 (nI m) 8 = nI c ∧ (W m).length + 2 = 3 * c := fun h m hm => by
    refine ⟨1, Nat.le_refl _, Nat.one_le_two_pow, ?_, by rw [hT.1 m hm]; rfl⟩
    rw [hU.2 (nI m) (hSink_nI hW.1 h8 hm) 8 (by decide) (by decide)]
    rfl
  intro h
  induction h with
  | zero =>
    intro m hm hr
    rcases hm with z | ⟨z1, z2, z3⟩
    · exact sk 0 m z
    · obtain ⟨a, b, ea, eb, na, nb, nab, pa_a, pa_b⟩ := hW.2.dn z1 z2 z3
      have ra := (hρ a na).2 m z2 pa_a
      have := hW.2.depth hρ na
      omega
  | succ h ih =>
    intro m hm hr
    rcases hm with z | ⟨z1, z2, z3⟩
    · exact sk (h + 1) m z
    · obtain ⟨a, b, ea, eb, na, nb, nab, pa_a, pa_b⟩ := hW.2.dn z1 z2 z3
      have ra := (hρ a na).2 m z2 pa_a
      have rb := (hρ b nb).2 m z2 pa_b
      obtain ⟨ca, a1, a2, a3, a4⟩ := ih a na (by omega)
      obtain ⟨cb, b1, b2, b3, b4⟩ := ih b nb (by omega)
      refine ⟨ca + cb, by omega, by rw [Nat.pow_succ]; omega, ?_, ?_⟩
      · have L := hU.1 (nI m) ((hJoint_nI z1 z2).mpr z3) 8 (by decide) (by decide)
        have e1 : lfT σ 1 (nI m) = nI a := by unfold lfT nd; rw [nI_clamp (by omega)]; exact ea
        have e2 : rtT σ 1 (nI m) = nI b := by unfold rtT nd; rw [nI_clamp (by omega)]; exact eb
        rw [e1, e2] at L
        rw [L]
        show UV σ 1 (nI a) 8 + UV σ 1 (nI b) 8 = _
        rw [a3, b3, nI_add]
      · rw [hT.2 m a b z1 z2 z3 ea eb (hW.2.lt na) (hW.2.lt nb), List.length_cons, List.length_append, List.length_append, List.length_singleton]
        omega
theorem z_shownLength {m : Nat} (hW : WF σ 1 s) (hM : MD σ 10 1) (hρ : Dep s (σ 7) (σ 9) ρ) (hT : TxW σ s W) (hn : nodeN s (σ 7) m) (kk : Q (some (.int (nI (W m).length))) (cw_B σ lam)) : cw_Z (d + 2) m_CW_shownLength [.ref 0, .int (nI m)] (cw_B σ lam) Q := by
  have lm := hW.2.lt hn
  have ecl : (nI m).toNatClampNeg = m := nI_clamp (by omega)
  have hin : cw_in (nI m) 15 = true := cw_in_nI lm (by decide)
  have hp : isP (10 + 5 + m) := ⟨10, hW10, Or.inr ⟨m, lm, rfl⟩⟩
  obtain ⟨c, c1, c2, c3, c4⟩ := tx_len hW hρ hT 7 m hn (by omega)
  have c5 : c ≤ 128 := c2
  have e8 : σ (10 + 5 + m) 8 = nI c := ((md_node hW hM hn).1 8 (by decide) (by decide)).trans c3
  refine zi (L := [some (.ref 0), some (.int (nI m))]) rfl rfl (fun K hK => ?_)
  refine st_go hK rfl rfl ?_
  refine st_go hK rfl rfl ?_
  refine st_getr hK rfl qf_0_1 ?_
  refine st_go hK rfl rfl ?_
  refine cv1 hK rfl qc_10 (Nat.le_of_ble_eq_true rfl) ?_
  refine z_part hW10 hin ?_
  rw [ecl]
  change K _ _ (_ :: _) _
  refine gi (v := σ (10 + 5 + m) 8) hK rfl (Part_f8 hp) rfl ?_
  refine st_bin hK rfl ?_
  refine st_go hK rfl rfl ?_
  refine st_bin hK rfl ?_
  refine st_ret hK rfl rfl ?_
  rw [e8, show (3 : Int32) * nI c = nI (3 * c) from nI_mul 3 c, show nI (3 * c) - 2 = nI (3 * c - 2) from nI_sub (b := 2) (by omega), show 3 * c - 2 = (W m).length by omega]
  exact kk
theorem z_shownByte {n i : Nat} (hW : WF σ 1 s) (hM : MD σ 10 1) (hρ : Dep s (σ 7) (σ 9) ρ) (hT : TxW σ s W) (hn : nodeN s (σ 7) n) (hi : i < 2 ^ 31) (kk : Q (some (.int (gtx (W n) i))) (cw_B σ lam)) : cw_Z (d + 3) m_CW_shownByte [.ref 0, .int (nI n), .int (nI i)] (cw_B σ lam) Q := by
  have h8 := hW.2.1
  refine zi (L := [some (.ref 0), some (.int (nI n)), some (.int (nI i)), none, none, none, none, none]) rfl rfl (fun K hK => ?_)
  have wlen : ∀ m, nodeN s (σ 7) m → (W m).length < 1000 := fun m hm => by
    obtain ⟨c, c1, c2, c3, c4⟩ := tx_len hW hρ hT 7 m hm (by omega)
    have : c ≤ 128 := c2
    omega
  have loop : ∀ h m x q (x6 x7 : Option Value), nodeN s (σ 7) m → 7 ≤ ρ m + h → q ≤ ρ m → x < 2 ^ 31 → gtx (W m) x = gtx (W n) i → K 8 [some (.ref 0), some (.int (nI n)), some (.int (nI i)), some (.int (nI m)), some (.int (nI x)), some (.int (nI q)), x6, x7] [] (cw_B σ lam) := by
    intro h
    induction h with
    | zero =>
      intro m x q x6 x7 hm hr hq hx e
      have hdp := hW.2.depth hρ hm
      have wl := wlen m hm
      have lm := hW.2.lt hm
      by_cases hms : m < s
      · have hwm := hT.1 m hms
        have hwl : (W m).length = 1 := by rw [hwm]; rfl
        refine st_go hK rfl rfl ?_
        refine st_go hK rfl rfl ?_
        refine st_ifn hK rfl rfl (nI_leI (a := 15) (b := q) (by omega) (by omega)) (fun c => absurd c (by omega)) (fun _ => ?_)
        refine st_go hK rfl rfl ?_
        refine st_go hK rfl rfl ?_
        refine cv1 hK rfl qc_0 (Nat.le_of_ble_eq_true rfl) ?_
        refine z_shownLength hW hM hρ hT hm ?_
        change K _ _ (_ :: _) _
        refine st_go hK rfl rfl ?_
        change K _ [some (.ref 0), some (.int (nI n)), some (.int (nI i)), some (.int (nI m)), some (.int (nI x)), some (.int (nI q)), some (.int (nI ((W m).length))), _] _ _
        refine st_go hK rfl rfl ?_
        refine st_go hK rfl rfl ?_
        refine st_ifn hK rfl rfl (nI_ltI (a := x) (b := (W m).length) (by omega) (by omega)) (fun c26 => ?_) (fun c26 => ?_)
        · refine st_go hK rfl rfl ?_
          refine st_go hK rfl rfl ?_
          refine st_ifn hK rfl rfl (nI_leI (a := 8) (b := m) (by omega) (by omega)) (fun c => absurd c (by omega)) (fun _ => ?_)
          refine st_go hK rfl rfl ?_
          refine st_go hK rfl rfl ?_
          refine bnv hK rfl (show _ = nI (48 + m) from nI_add 48 m) ?_
          refine st_ret hK rfl rfl ?_
          have e1 : gtx (W n) i = nI (48 + m) := by
            rw [← e, hwm]
            rw [show x = 0 by omega]
            rfl
          rw [e1] at kk
          exact kk
        · refine st_go hK rfl rfl ?_
          refine st_ret hK rfl rfl ?_
          have e1 : gtx (W n) i = -1 := by
            rw [← e, hwm]
            exact gtx_none (by show 1 ≤ x; omega)
          rw [e1] at kk
          exact kk
      · obtain ⟨z1, z2, z3⟩ := hm.resolve_left hms
        obtain ⟨a, b, ea, eb, na, nb, nab, pa_a, pa_b⟩ := hW.2.dn z1 z2 z3
        have ra := (hρ a na).2 m z2 pa_a
        have := hW.2.depth hρ na
        omega
    | succ h ih =>
      intro m x q x6 x7 hm hr hq hx e
      have hdp := hW.2.depth hρ hm
      have wl := wlen m hm
      have lm := hW.2.lt hm
      by_cases hms : m < s
      · have hwm := hT.1 m hms
        have hwl : (W m).length = 1 := by rw [hwm]; rfl
        refine st_go hK rfl rfl ?_
        refine st_go hK rfl rfl ?_
        refine st_ifn hK rfl rfl (nI_leI (a := 15) (b := q) (by omega) (by omega)) (fun c => absurd c (by omega)) (fun _ => ?_)
        refine st_go hK rfl rfl ?_
        refine st_go hK rfl rfl ?_
        refine cv1 hK rfl qc_0 (Nat.le_of_ble_eq_true rfl) ?_
        refine z_shownLength hW hM hρ hT hm ?_
        change K _ _ (_ :: _) _
        refine st_go hK rfl rfl ?_
        change K _ [some (.ref 0), some (.int (nI n)), some (.int (nI i)), some (.int (nI m)), some (.int (nI x)), some (.int (nI q)), some (.int (nI ((W m).length))), _] _ _
        refine st_go hK rfl rfl ?_
        refine st_go hK rfl rfl ?_
        refine st_ifn hK rfl rfl (nI_ltI (a := x) (b := (W m).length) (by omega) (by omega)) (fun c26 => ?_) (fun c26 => ?_)
        · refine st_go hK rfl rfl ?_
          refine st_go hK rfl rfl ?_
          refine st_ifn hK rfl rfl (nI_leI (a := 8) (b := m) (by omega) (by omega)) (fun c => absurd c (by omega)) (fun _ => ?_)
          refine st_go hK rfl rfl ?_
          refine st_go hK rfl rfl ?_
          refine bnv hK rfl (show _ = nI (48 + m) from nI_add 48 m) ?_
          refine st_ret hK rfl rfl ?_
          have e1 : gtx (W n) i = nI (48 + m) := by
            rw [← e, hwm]
            rw [show x = 0 by omega]
            rfl
          rw [e1] at kk
          exact kk
        · refine st_go hK rfl rfl ?_
          refine st_ret hK rfl rfl ?_
          have e1 : gtx (W n) i = -1 := by
            rw [← e, hwm]
            exact gtx_none (by show 1 ≤ x; omega)
          rw [e1] at kk
          exact kk
      · obtain ⟨z1, z2, z3⟩ := hm.resolve_left hms
        obtain ⟨a, b, ea, eb, na, nb, nab, pa_a, pa_b⟩ := hW.2.dn z1 z2 z3
        have ra := (hρ a na).2 m z2 pa_a
        have rb := (hρ b nb).2 m z2 pa_b
        have wla := wlen a na
        have wlb := wlen b nb
        have hnode := hW.node hm
        have ecl : (nI m).toNatClampNeg = m := nI_clamp (by omega)
        have hwm := hT.2 m a b z1 z2 z3 ea eb (hW.2.lt na) (hW.2.lt nb)
        have hwl : (W m).length = (W a).length + (W b).length + 2 := by
          rw [hwm, List.length_cons, List.length_append, List.length_append, List.length_singleton]
          omega
        rw [hwm] at e
        by_cases hge : (W m).length ≤ x
        · have e1 : gtx (W n) i = -1 := by rw [← e]; exact gtx_none (by rw [← hwm]; exact hge)
          refine st_go hK rfl rfl ?_
          refine st_go hK rfl rfl ?_
          refine st_ifn hK rfl rfl (nI_leI (a := 15) (b := q) (by omega) (by omega)) (fun c => absurd c (by omega)) (fun _ => ?_)
          refine st_go hK rfl rfl ?_
          refine st_go hK rfl rfl ?_
          refine cv1 hK rfl qc_0 (Nat.le_of_ble_eq_true rfl) ?_
          refine z_shownLength hW hM hρ hT hm ?_
          change K _ _ (_ :: _) _
          refine st_go hK rfl rfl ?_
          change K _ [some (.ref 0), some (.int (nI n)), some (.int (nI i)), some (.int (nI m)), some (.int (nI x)), some (.int (nI q)), some (.int (nI ((W m).length))), _] _ _
          refine st_go hK rfl rfl ?_
          refine st_go hK rfl rfl ?_
          refine st_ifn hK rfl rfl (nI_ltI (a := x) (b := (W m).length) (by omega) (by omega)) (fun c => absurd c (by omega)) (fun _ => ?_)
          refine st_go hK rfl rfl ?_
          refine st_ret hK rfl rfl ?_
          rw [e1] at kk
          exact kk
        · by_cases hx0 : x = 0
          · subst hx0
            have e1 : gtx (W n) i = 40 := by rw [← e]; rfl
            refine st_go hK rfl rfl ?_
            refine st_go hK rfl rfl ?_
            refine st_ifn hK rfl rfl (nI_leI (a := 15) (b := q) (by omega) (by omega)) (fun c => absurd c (by omega)) (fun _ => ?_)
            refine st_go hK rfl rfl ?_
            refine st_go hK rfl rfl ?_
            refine cv1 hK rfl qc_0 (Nat.le_of_ble_eq_true rfl) ?_
            refine z_shownLength hW hM hρ hT hm ?_
            change K _ _ (_ :: _) _
            refine st_go hK rfl rfl ?_
            change K _ [some (.ref 0), some (.int (nI n)), some (.int (nI i)), some (.int (nI m)), some (.int (nI 0)), some (.int (nI q)), some (.int (nI ((W m).length))), _] _ _
            refine st_go hK rfl rfl ?_
            refine st_go hK rfl rfl ?_
            refine st_ifn hK rfl rfl (nI_ltI (a := 0) (b := (W m).length) (by omega) (by omega)) (fun _ => ?_) (fun c => absurd (by omega) c)
            refine st_go hK rfl rfl ?_
            refine st_go hK rfl rfl ?_
            refine st_ifn hK rfl rfl (nI_leI (a := 8) (b := m) (by omega) (by omega)) (fun _ => ?_) (fun c => absurd (by omega) c)
            refine st_go hK rfl rfl ?_
            refine st_ifn hK rfl rfl (not_congr (nI_eq (a := 0) (b := 0) (by omega) (by omega))) (fun c => absurd c (by omega)) (fun _ => ?_)
            refine st_go hK rfl rfl ?_
            refine st_ret hK rfl rfl ?_
            rw [e1] at kk
            exact kk
          · obtain ⟨x, rfl⟩ : ∃ y, x = y + 1 := ⟨x - 1, by omega⟩
            rw [gtx_s] at e
            by_cases hla : x + 1 = (W m).length - 1
            · have e1 : gtx (W n) i = 41 := by
                rw [← e, gtx_r (by omega), gtx_r (by omega), show x - (W a).length - (W b).length = 0 by omega]
                rfl
              refine st_go hK rfl rfl ?_
              refine st_go hK rfl rfl ?_
              refine st_ifn hK rfl rfl (nI_leI (a := 15) (b := q) (by omega) (by omega)) (fun c => absurd c (by omega)) (fun _ => ?_)
              refine st_go hK rfl rfl ?_
              refine st_go hK rfl rfl ?_
              refine cv1 hK rfl qc_0 (Nat.le_of_ble_eq_true rfl) ?_
              refine z_shownLength hW hM hρ hT hm ?_
              change K _ _ (_ :: _) _
              refine st_go hK rfl rfl ?_
              change K _ [some (.ref 0), some (.int (nI n)), some (.int (nI i)), some (.int (nI m)), some (.int (nI (x + 1))), some (.int (nI q)), some (.int (nI ((W m).length))), _] _ _
              refine st_go hK rfl rfl ?_
              refine st_go hK rfl rfl ?_
              refine st_ifn hK rfl rfl (nI_ltI (a := x + 1) (b := (W m).length) (by omega) (by omega)) (fun _ => ?_) (fun c => absurd (by omega) c)
              refine st_go hK rfl rfl ?_
              refine st_go hK rfl rfl ?_
              refine st_ifn hK rfl rfl (nI_leI (a := 8) (b := m) (by omega) (by omega)) (fun _ => ?_) (fun c => absurd (by omega) c)
              refine st_go hK rfl rfl ?_
              refine st_ifn hK rfl rfl (not_congr (nI_eq (a := x + 1) (b := 0) (by omega) (by omega))) (fun _ => ?_) (fun c => absurd (by omega) c)
              refine st_go hK rfl rfl ?_
              refine st_go hK rfl rfl ?_
              refine st_go hK rfl rfl ?_
              refine bnv (v := nI ((W m).length - 1)) hK rfl (nI_sub (a := (W m).length) (b := 1) (by omega)) ?_
              refine st_ifn hK rfl rfl (not_congr (nI_eq (a := x + 1) (b := (W m).length - 1) (by omega) (by omega))) (fun c => absurd c (fun z => z hla)) (fun _ => ?_)
              refine st_go hK rfl rfl ?_
              refine st_ret hK rfl rfl ?_
              rw [e1] at kk
              exact kk
            · by_cases hlt : x < (W a).length
              · have e2 : gtx (W a) x = gtx (W n) i := by rw [← e, gtx_l hlt]
                refine st_go hK rfl rfl ?_
                refine st_go hK rfl rfl ?_
                refine st_ifn hK rfl rfl (nI_leI (a := 15) (b := q) (by omega) (by omega)) (fun c => absurd c (by omega)) (fun _ => ?_)
                refine st_go hK rfl rfl ?_
                refine st_go hK rfl rfl ?_
                refine cv1 hK rfl qc_0 (Nat.le_of_ble_eq_true rfl) ?_
                refine z_shownLength hW hM hρ hT hm ?_
                change K _ _ (_ :: _) _
                refine st_go hK rfl rfl ?_
                change K _ [some (.ref 0), some (.int (nI n)), some (.int (nI i)), some (.int (nI m)), some (.int (nI (x + 1))), some (.int (nI q)), some (.int (nI ((W m).length))), _] _ _
                refine st_go hK rfl rfl ?_
                refine st_go hK rfl rfl ?_
                refine st_ifn hK rfl rfl (nI_ltI (a := x + 1) (b := (W m).length) (by omega) (by omega)) (fun _ => ?_) (fun c => absurd (by omega) c)
                refine st_go hK rfl rfl ?_
                refine st_go hK rfl rfl ?_
                refine st_ifn hK rfl rfl (nI_leI (a := 8) (b := m) (by omega) (by omega)) (fun _ => ?_) (fun c => absurd (by omega) c)
                refine st_go hK rfl rfl ?_
                refine st_ifn hK rfl rfl (not_congr (nI_eq (a := x + 1) (b := 0) (by omega) (by omega))) (fun _ => ?_) (fun c => absurd (by omega) c)
                refine st_go hK rfl rfl ?_
                refine st_go hK rfl rfl ?_
                refine st_go hK rfl rfl ?_
                refine bnv (v := nI ((W m).length - 1)) hK rfl (nI_sub (a := (W m).length) (b := 1) (by omega)) ?_
                refine st_ifn hK rfl rfl (not_congr (nI_eq (a := x + 1) (b := (W m).length - 1) (by omega) (by omega))) (fun _ => ?_) (fun c => absurd hla c)
                refine st_go hK rfl rfl ?_
                rw [nI_dec]
                refine st_go hK rfl rfl ?_
                refine st_go hK rfl rfl ?_
                refine st_getr hK rfl qf_0_0 ?_
                refine st_go hK rfl rfl ?_
                refine cv1 hK rfl qc_1 (Nat.le_of_ble_eq_true rfl) ?_
                refine z_leftOf hT1 (fun _ => ?_) (fun c => absurd hnode c)
                rw [ecl, show σ (1 + 6) m = nI a from ea]
                change K _ _ (_ :: _) _
                refine cv1 hK rfl qc_0 (Nat.le_of_ble_eq_true rfl) ?_
                refine z_shownLength hW hM hρ hT na ?_
                change K _ _ (_ :: _) _
                refine st_go hK rfl rfl ?_
                change K _ [some (.ref 0), some (.int (nI n)), some (.int (nI i)), some (.int (nI m)), some (.int (nI x)), some (.int (nI q)), some (.int (nI ((W m).length))), some (.int (nI ((W a).length)))] _ _
                refine st_go hK rfl rfl ?_
                refine st_go hK rfl rfl ?_
                refine st_ifn hK rfl rfl (nI_leI (a := (W a).length) (b := x) (by omega) (by omega)) (fun c => absurd c (by omega)) (fun _ => ?_)
                refine st_go hK rfl rfl ?_
                refine st_getr hK rfl qf_0_0 ?_
                refine st_go hK rfl rfl ?_
                refine cv1 hK rfl qc_1 (Nat.le_of_ble_eq_true rfl) ?_
                refine z_leftOf hT1 (fun _ => ?_) (fun c => absurd hnode c)
                rw [ecl, show σ (1 + 6) m = nI a from ea]
                change K _ _ (_ :: _) _
                refine st_go hK rfl rfl ?_
                change K _ [some (.ref 0), some (.int (nI n)), some (.int (nI i)), some (.int (nI a)), some (.int (nI x)), some (.int (nI q)), some (.int (nI ((W m).length))), some (.int (nI ((W a).length)))] _ _
                refine st_go hK rfl rfl ?_
                refine st_go hK rfl rfl ?_
                rw [nI_1]
                refine st_go hK rfl rfl ?_
                exact ih a x (q + 1) _ _ na (by omega) (by omega) (by omega) e2
              · have e2 : gtx (W b) (x - (W a).length) = gtx (W n) i := by rw [← e, gtx_r (by omega), gtx_l (by omega)]
                refine st_go hK rfl rfl ?_
                refine st_go hK rfl rfl ?_
                refine st_ifn hK rfl rfl (nI_leI (a := 15) (b := q) (by omega) (by omega)) (fun c => absurd c (by omega)) (fun _ => ?_)
                refine st_go hK rfl rfl ?_
                refine st_go hK rfl rfl ?_
                refine cv1 hK rfl qc_0 (Nat.le_of_ble_eq_true rfl) ?_
                refine z_shownLength hW hM hρ hT hm ?_
                change K _ _ (_ :: _) _
                refine st_go hK rfl rfl ?_
                change K _ [some (.ref 0), some (.int (nI n)), some (.int (nI i)), some (.int (nI m)), some (.int (nI (x + 1))), some (.int (nI q)), some (.int (nI ((W m).length))), _] _ _
                refine st_go hK rfl rfl ?_
                refine st_go hK rfl rfl ?_
                refine st_ifn hK rfl rfl (nI_ltI (a := x + 1) (b := (W m).length) (by omega) (by omega)) (fun _ => ?_) (fun c => absurd (by omega) c)
                refine st_go hK rfl rfl ?_
                refine st_go hK rfl rfl ?_
                refine st_ifn hK rfl rfl (nI_leI (a := 8) (b := m) (by omega) (by omega)) (fun _ => ?_) (fun c => absurd (by omega) c)
                refine st_go hK rfl rfl ?_
                refine st_ifn hK rfl rfl (not_congr (nI_eq (a := x + 1) (b := 0) (by omega) (by omega))) (fun _ => ?_) (fun c => absurd (by omega) c)
                refine st_go hK rfl rfl ?_
                refine st_go hK rfl rfl ?_
                refine st_go hK rfl rfl ?_
                refine bnv (v := nI ((W m).length - 1)) hK rfl (nI_sub (a := (W m).length) (b := 1) (by omega)) ?_
                refine st_ifn hK rfl rfl (not_congr (nI_eq (a := x + 1) (b := (W m).length - 1) (by omega) (by omega))) (fun _ => ?_) (fun c => absurd hla c)
                refine st_go hK rfl rfl ?_
                rw [nI_dec]
                refine st_go hK rfl rfl ?_
                refine st_go hK rfl rfl ?_
                refine st_getr hK rfl qf_0_0 ?_
                refine st_go hK rfl rfl ?_
                refine cv1 hK rfl qc_1 (Nat.le_of_ble_eq_true rfl) ?_
                refine z_leftOf hT1 (fun _ => ?_) (fun c => absurd hnode c)
                rw [ecl, show σ (1 + 6) m = nI a from ea]
                change K _ _ (_ :: _) _
                refine cv1 hK rfl qc_0 (Nat.le_of_ble_eq_true rfl) ?_
                refine z_shownLength hW hM hρ hT na ?_
                change K _ _ (_ :: _) _
                refine st_go hK rfl rfl ?_
                change K _ [some (.ref 0), some (.int (nI n)), some (.int (nI i)), some (.int (nI m)), some (.int (nI x)), some (.int (nI q)), some (.int (nI ((W m).length))), some (.int (nI ((W a).length)))] _ _
                refine st_go hK rfl rfl ?_
                refine st_go hK rfl rfl ?_
                refine st_ifn hK rfl rfl (nI_leI (a := (W a).length) (b := x) (by omega) (by omega)) (fun _ => ?_) (fun c => absurd (by omega) c)
                refine st_go hK rfl rfl ?_
                refine st_go hK rfl rfl ?_
                refine bnv hK rfl (show _ = nI (x - (W a).length) from nI_sub (by omega)) ?_
                refine st_go hK rfl rfl ?_
                change K _ [some (.ref 0), some (.int (nI n)), some (.int (nI i)), some (.int (nI m)), some (.int (nI (x - (W a).length))), some (.int (nI q)), some (.int (nI ((W m).length))), some (.int (nI ((W a).length)))] _ _
                refine st_go hK rfl rfl ?_
                refine st_getr hK rfl qf_0_0 ?_
                refine st_go hK rfl rfl ?_
                refine cv1 hK rfl qc_1 (Nat.le_of_ble_eq_true rfl) ?_
                refine z_rightOf hT1 (fun _ => ?_) (fun c => absurd hnode c)
                rw [ecl, show σ (1 + 7) m = nI b from eb]
                change K _ _ (_ :: _) _
                refine st_go hK rfl rfl ?_
                change K _ [some (.ref 0), some (.int (nI n)), some (.int (nI i)), some (.int (nI b)), some (.int (nI (x - (W a).length))), some (.int (nI q)), some (.int (nI ((W m).length))), some (.int (nI ((W a).length)))] _ _
                refine st_go hK rfl rfl ?_
                rw [nI_1]
                refine st_go hK rfl rfl ?_
                exact ih b (x - (W a).length) (q + 1) _ _ nb (by omega) (by omega) (by omega) e2
  refine st_go hK rfl rfl ?_
  refine st_go hK rfl rfl ?_
  change K _ [some (.ref 0), some (.int (nI n)), some (.int (nI i)), some (.int (nI n)), _, _, _, _] _ _
  refine st_go hK rfl rfl ?_
  refine st_go hK rfl rfl ?_
  change K _ [some (.ref 0), some (.int (nI n)), some (.int (nI i)), some (.int (nI n)), some (.int (nI i)), _, _, _] _ _
  refine st_go hK rfl rfl ?_
  refine st_go hK rfl rfl ?_
  change K _ [some (.ref 0), some (.int (nI n)), some (.int (nI i)), some (.int (nI n)), some (.int (nI i)), some (.int (0 : Int32)), _, _] _ _
  exact loop 7 n i 0 none none hn (by omega) (by omega) hi rfl
/-! the model's walk -/
def Rst (σ : cw_V) (W : Nat → List Int32) (n : Nat) : Nat → Nat → List Int32 → Prop
  | 0, m, rest => m = n ∧ rest = []
  | e + 1, m, rest => ∃ p rest' a b, 8 ≤ p ∧ p < 15 ∧ σ 7 p ≠ -1 ∧ σ 9 m = nI p ∧ σ 7 p = nI a ∧ σ 8 p = nI b ∧ a ≠ b ∧ a < 15 ∧ b < 15 ∧ Rst σ W n e p rest' ∧ ((m = a ∧ rest = W b ++ 41 :: rest') ∨ (m = b ∧ rest = 41 :: rest'))
theorem Rst.dep {n : Nat} (hρ : Dep s (σ 7) (σ 9) ρ) : ∀ e m rest, Rst σ W n e m rest → nodeN s (σ 7) m → ρ m = ρ n + e := by
  intro e
  induction e with
  | zero => intro m rest h _; rw [h.1]; rfl
  | succ e ih =>
    intro m rest h hm
    obtain ⟨p, rest', a, b, p8, p15, pl, hp, -, -, -, -, -, hR, -⟩ := h
    have := ih p rest' hR (Or.inr ⟨p8, p15, pl⟩)
    have := (hρ m hm).2 p p15 hp
    omega
theorem z_byteOf {n i : Nat} (hM : MW υ s) (te : TE (mv υ) 1 σ 1) (hW : WF σ 1 s) (hρ : Dep s (σ 7) (σ 9) ρ) (hT : TxW σ s W) (hn : nodeN s (σ 7) n) (hi : i < 2 ^ 31) (kk : Q (some (.int (gtx (W n) i))) (cw_B υ lam)) : cw_Z (d + 1) m_Mo_byteOf [.ref 146, .int (nI n), .int (nI i)] (cw_B υ lam) Q := by
  have h8 := hW.2.1
  have ln := hW.2.lt hn
  obtain ⟨w1, w2, w3⟩ := te.mrow
  refine zi (L := [some (.ref 146), some (.int (nI n)), some (.int (nI i)), none, none, none, none, none]) rfl rfl (fun K hK => ?_)
  have loop : ∀ q, q < 2 ^ 31 → (∀ e m rest (f : Int32) (x7 : Option Value), Rst σ W n e m rest → nodeN s (σ 7) m → gtx (W m ++ rest) q = gtx (W n) i → K 11 [some (.ref 146), some (.int (nI n)), some (.int (nI i)), some (.int (nI m)), some (.int f), some (.int (nI q)), some (.int 1), x7] [] (cw_B υ lam)) ∧ (∀ e m rest (f : Int32) (x7 : Option Value), Rst σ W n e m rest → 8 ≤ m → m < 15 → σ 7 m ≠ -1 → gtx (41 :: rest) q = gtx (W n) i → K 11 [some (.ref 146), some (.int (nI n)), some (.int (nI i)), some (.int (nI m)), some (.int f), some (.int (nI q)), some (.int 0), x7] [] (cw_B υ lam)) := by
    intro q
    induction q with
    | zero =>
      intro _
      refine ⟨fun e m rest f x7 hR hm ea => ?_, fun e m rest f x7 hR m8 m15 ml ea => ?_⟩
      · have lm := hW.2.lt hm
        by_cases hms : m < s
        · have e1 : gtx (W n) i = nI (48 + m) := by rw [← ea, hT.1 m hms]; rfl
          refine st_go hK rfl rfl ?_
          refine st_if hK rfl rfl (fun c => absurd c (nI_pos (by omega))) (fun _ => ?_)
          refine st_go hK rfl rfl ?_
          refine st_go hK rfl rfl ?_
          refine st_ifn hK rfl rfl (nI_leI (a := 8) (b := m) (by omega) (by omega)) (fun c => absurd c (by omega)) (fun _ => ?_)
          refine st_go hK rfl rfl ?_
          refine st_go hK rfl rfl ?_
          refine st_go hK rfl rfl ?_
          change K _ [some (.ref 146), some (.int (nI n)), some (.int (nI i)), some (.int (nI m)), some (.int f), some (.int (nI 0)), some (.int (1 : Int32)), some (.int (1 : Int32))] _ _
          refine st_go hK rfl rfl ?_
          refine st_ifn hK rfl rfl (not_congr (nI_eq (a := 0) (b := 0) (by omega) (by omega))) (fun c => absurd c (by omega)) (fun _ => ?_)
          refine st_go hK rfl rfl ?_
          refine st_if hK rfl rfl (fun c => absurd c (by decide)) (fun _ => ?_)
          refine st_go hK rfl rfl ?_
          refine st_go hK rfl rfl ?_
          refine bnv hK rfl (show _ = nI (48 + m) from nI_add 48 m) ?_
          refine st_go hK rfl rfl ?_
          refine st_ret hK rfl rfl ?_
          rw [e1] at kk
          exact kk
        · obtain ⟨z1, z2, z3⟩ := hm.resolve_left hms
          obtain ⟨a, b, ea', eb', na, nb, nab, pa_a, pa_b⟩ := hW.2.dn z1 z2 z3
          have e1 : gtx (W n) i = 40 := by rw [← ea, hT.2 m a b z1 z2 z3 ea' eb' (hW.2.lt na) (hW.2.lt nb)]; rfl
          refine st_go hK rfl rfl ?_
          refine st_if hK rfl rfl (fun c => absurd c (nI_pos (by omega))) (fun _ => ?_)
          refine st_go hK rfl rfl ?_
          refine st_go hK rfl rfl ?_
          refine st_ifn hK rfl rfl (nI_leI (a := 8) (b := m) (by omega) (by omega)) (fun _ => ?_) (fun c => absurd (by omega) c)
          refine st_go hK rfl rfl ?_
          refine st_go hK rfl rfl ?_
          change K _ [some (.ref 146), some (.int (nI n)), some (.int (nI i)), some (.int (nI m)), some (.int f), some (.int (nI 0)), some (.int (1 : Int32)), some (.int (0 : Int32))] _ _
          refine st_go hK rfl rfl ?_
          refine st_ifn hK rfl rfl (not_congr (nI_eq (a := 0) (b := 0) (by omega) (by omega))) (fun c => absurd c (by omega)) (fun _ => ?_)
          refine st_go hK rfl rfl ?_
          refine st_if hK rfl rfl (fun _ => ?_) (fun c => absurd (by decide) c)
          refine st_go hK rfl rfl ?_
          refine st_if hK rfl rfl (fun c => absurd c (by decide)) (fun _ => ?_)
          refine st_go hK rfl rfl ?_
          refine st_go hK rfl rfl ?_
          refine st_ret hK rfl rfl ?_
          rw [e1] at kk
          exact kk
      · have e1 : gtx (W n) i = 41 := by rw [← ea]; rfl
        refine st_go hK rfl rfl ?_
        refine st_if hK rfl rfl (fun c => absurd c (nI_pos (by omega))) (fun _ => ?_)
        refine st_go hK rfl rfl ?_
        refine st_go hK rfl rfl ?_
        refine st_ifn hK rfl rfl (nI_leI (a := 8) (b := m) (by omega) (by omega)) (fun _ => ?_) (fun c => absurd (by omega) c)
        refine st_go hK rfl rfl ?_
        refine st_go hK rfl rfl ?_
        change K _ [some (.ref 146), some (.int (nI n)), some (.int (nI i)), some (.int (nI m)), some (.int f), some (.int (nI 0)), some (.int (0 : Int32)), some (.int (0 : Int32))] _ _
        refine st_go hK rfl rfl ?_
        refine st_ifn hK rfl rfl (not_congr (nI_eq (a := 0) (b := 0) (by omega) (by omega))) (fun c => absurd c (by omega)) (fun _ => ?_)
        refine st_go hK rfl rfl ?_
        refine st_if hK rfl rfl (fun _ => ?_) (fun c => absurd (by decide) c)
        refine st_go hK rfl rfl ?_
        refine st_if hK rfl rfl (fun _ => ?_) (fun c => absurd (by decide) c)
        refine st_go hK rfl rfl ?_
        refine st_ret hK rfl rfl ?_
        rw [e1] at kk
        exact kk
    | succ q ih =>
      intro hq
      obtain ⟨ihd, ihu⟩ := ih (by omega)
      have aft : ∀ e m rest (f : Int32) (dn x7 : Int32), Rst σ W n e m rest → nodeN s (σ 7) m → gtx rest q = gtx (W n) i → K 85 [some (.ref 146), some (.int (nI n)), some (.int (nI i)), some (.int (nI m)), some (.int f), some (.int (nI q)), some (.int dn), some (.int x7)] [] (cw_B υ lam) := by
        intro e m rest f dn x7 hR hm ea
        have lm := hW.2.lt hm
        cases e with
        | zero =>
          obtain ⟨hmn, hre⟩ := hR
          have e1 : gtx (W n) i = -1 := by rw [← ea, hre]; rfl
          refine st_go hK rfl rfl ?_
          refine st_go hK rfl rfl ?_
          refine st_ifn hK rfl rfl (not_congr (nI_eq (a := m) (b := n) (by omega) (by omega))) (fun c => absurd c (fun z => z hmn)) (fun _ => ?_)
          refine st_go hK rfl rfl ?_
          refine st_ret hK rfl rfl ?_
          rw [e1] at kk
          exact kk
        | succ e =>
          have hd := Rst.dep hρ (e + 1) m rest hR hm
          obtain ⟨p, rest', a, b, p8, p15, pl, hp, ea', eb', nab, a15, b15, hR', hab⟩ := hR
          have hmn : ¬ m = n := fun z => by rw [z] at hd; omega
          have j1 : υ 153 m = nI p := (w3 m lm).trans hp
          have j2 : υ 151 p = nI a := (w1 p p15).trans ea'
          have j3 : υ 152 p = nI b := (w2 p p15).trans eb'
          rcases hab with ⟨rfl, hre⟩ | ⟨rfl, hre⟩
          · obtain ⟨a', b', ea2, eb2, na2, nb2, -, -, pb2⟩ := hW.2.dn p8 p15 pl
            have lb2 := hW.2.lt nb2
            obtain rfl : b = b' := nI_inj (by omega) (by omega) (eb'.symm.trans eb2)
            rw [hre] at ea
            refine st_go hK rfl rfl ?_
            refine st_go hK rfl rfl ?_
            refine st_ifn hK rfl rfl (not_congr (nI_eq (a := m) (b := n) (by omega) (by omega))) (fun _ => ?_) (fun c => absurd hmn c)
            refine st_go hK rfl rfl ?_
            refine st_go hK rfl rfl ?_
            change K _ [some (.ref 146), some (.int (nI n)), some (.int (nI i)), some (.int (nI m)), some (.int (nI m)), some (.int (nI q)), some (.int dn), some (.int x7)] _ _
            refine st_go hK rfl rfl ?_
            refine st_getr hK rfl qf_146_11 ?_
            refine st_go hK rfl rfl ?_
            refine ga (e := m) (v := nI p) hK rfl qa_153 rfl (by omega) rfl j1 ?_
            refine st_go hK rfl rfl ?_
            change K _ [some (.ref 146), some (.int (nI n)), some (.int (nI i)), some (.int (nI p)), some (.int (nI m)), some (.int (nI q)), some (.int dn), some (.int x7)] _ _
            refine st_go hK rfl rfl ?_
            refine st_getr hK rfl qf_146_9 ?_
            refine st_go hK rfl rfl ?_
            refine ga (e := p) (v := nI m) hK rfl qa_151 rfl (by omega) rfl j2 ?_
            refine st_go hK rfl rfl ?_
            refine st_ifn hK rfl rfl (not_congr (nI_eq (a := m) (b := m) (by omega) (by omega))) (fun c => absurd c (fun z => z rfl)) (fun _ => ?_)
            refine st_go hK rfl rfl ?_
            refine st_go hK rfl rfl ?_
            refine st_go hK rfl rfl ?_
            change K _ [some (.ref 146), some (.int (nI n)), some (.int (nI i)), some (.int (nI p)), some (.int (nI m)), some (.int (nI q)), some (.int (1 : Int32)), some (.int x7)] _ _
            refine st_go hK rfl rfl ?_
            refine st_if hK rfl rfl (fun c => absurd c (by decide)) (fun _ => ?_)
            refine st_go hK rfl rfl ?_
            refine st_getr hK rfl qf_146_10 ?_
            refine st_go hK rfl rfl ?_
            refine ga (e := p) (v := nI b) hK rfl qa_152 rfl (by omega) rfl j3 ?_
            refine st_go hK rfl rfl ?_
            refine st_go hK rfl rfl ?_
            change K _ [some (.ref 146), some (.int (nI n)), some (.int (nI i)), some (.int (nI b)), some (.int (nI m)), some (.int (nI q)), some (.int (1 : Int32)), some (.int x7)] _ _
            refine st_go hK rfl rfl ?_
            refine ihd (e + 1) b (41 :: rest') _ _ ⟨p, rest', m, b, p8, p15, pl, pb2, ea', eb', nab, a15, b15, hR', Or.inr ⟨rfl, rfl⟩⟩ nb2 ea
          · rw [hre] at ea
            refine st_go hK rfl rfl ?_
            refine st_go hK rfl rfl ?_
            refine st_ifn hK rfl rfl (not_congr (nI_eq (a := m) (b := n) (by omega) (by omega))) (fun _ => ?_) (fun c => absurd hmn c)
            refine st_go hK rfl rfl ?_
            refine st_go hK rfl rfl ?_
            change K _ [some (.ref 146), some (.int (nI n)), some (.int (nI i)), some (.int (nI m)), some (.int (nI m)), some (.int (nI q)), some (.int dn), some (.int x7)] _ _
            refine st_go hK rfl rfl ?_
            refine st_getr hK rfl qf_146_11 ?_
            refine st_go hK rfl rfl ?_
            refine ga (e := m) (v := nI p) hK rfl qa_153 rfl (by omega) rfl j1 ?_
            refine st_go hK rfl rfl ?_
            change K _ [some (.ref 146), some (.int (nI n)), some (.int (nI i)), some (.int (nI p)), some (.int (nI m)), some (.int (nI q)), some (.int dn), some (.int x7)] _ _
            refine st_go hK rfl rfl ?_
            refine st_getr hK rfl qf_146_9 ?_
            refine st_go hK rfl rfl ?_
            refine ga (e := p) (v := nI a) hK rfl qa_151 rfl (by omega) rfl j2 ?_
            refine st_go hK rfl rfl ?_
            refine st_ifn hK rfl rfl (not_congr (nI_eq (a := a) (b := m) (by omega) (by omega))) (fun _ => ?_) (fun c => absurd nab c)
            refine st_go hK rfl rfl ?_
            refine st_go hK rfl rfl ?_
            change K _ [some (.ref 146), some (.int (nI n)), some (.int (nI i)), some (.int (nI p)), some (.int (nI m)), some (.int (nI q)), some (.int (0 : Int32)), some (.int x7)] _ _
            refine st_go hK rfl rfl ?_
            refine st_if hK rfl rfl (fun _ => ?_) (fun c => absurd (by decide) c)
            refine st_go hK rfl rfl ?_
            refine st_go hK rfl rfl ?_
            change K _ [some (.ref 146), some (.int (nI n)), some (.int (nI i)), some (.int (nI p)), some (.int (nI m)), some (.int (nI q)), some (.int (0 : Int32)), some (.int x7)] _ _
            refine st_go hK rfl rfl ?_
            exact ihu e p rest' _ _ hR' p8 p15 pl ea
      refine ⟨fun e m rest f x7 hR hm ea => ?_, fun e m rest f x7 hR m8 m15 ml ea => ?_⟩
      · have lm := hW.2.lt hm
        by_cases hms : m < s
        · rw [hT.1 m hms] at ea
          have ea2 : gtx rest q = gtx (W n) i := ea
          refine st_go hK rfl rfl ?_
          refine st_if hK rfl rfl (fun c => absurd c (nI_pos (by omega))) (fun _ => ?_)
          refine st_go hK rfl rfl ?_
          refine st_go hK rfl rfl ?_
          refine st_ifn hK rfl rfl (nI_leI (a := 8) (b := m) (by omega) (by omega)) (fun c => absurd c (by omega)) (fun _ => ?_)
          refine st_go hK rfl rfl ?_
          refine st_go hK rfl rfl ?_
          refine st_go hK rfl rfl ?_
          change K _ [some (.ref 146), some (.int (nI n)), some (.int (nI i)), some (.int (nI m)), some (.int f), some (.int (nI (q + 1))), some (.int (1 : Int32)), some (.int (1 : Int32))] _ _
          refine st_go hK rfl rfl ?_
          refine st_ifn hK rfl rfl (not_congr (nI_eq (a := q + 1) (b := 0) (by omega) (by omega))) (fun _ => ?_) (fun c => absurd (by omega) c)
          refine st_go hK rfl rfl ?_
          rw [nI_dec]
          refine st_go hK rfl rfl ?_
          refine st_if hK rfl rfl (fun c => absurd c (by decide)) (fun _ => ?_)
          refine st_go hK rfl rfl ?_
          refine st_if hK rfl rfl (fun _ => ?_) (fun c => absurd (by decide) c)
          exact aft e m rest _ _ _ hR hm ea2
        · obtain ⟨z1, z2, z3⟩ := hm.resolve_left hms
          obtain ⟨a, b, ea', eb', na, nb, nab, pa_a, pa_b⟩ := hW.2.dn z1 z2 z3
          have la := hW.2.lt na
          have lb := hW.2.lt nb
          rw [hT.2 m a b z1 z2 z3 ea' eb' la lb] at ea
          have ea2 : gtx (W a ++ (W b ++ 41 :: rest)) q = gtx (W n) i := by
            rw [← ea]
            show _ = gtx ((W a ++ (W b ++ [41])) ++ rest) q
            rw [List.append_assoc, List.append_assoc]
            rfl
          have j2 : υ 151 m = nI a := (w1 m z2).trans ea'
          refine st_go hK rfl rfl ?_
          refine st_if hK rfl rfl (fun c => absurd c (nI_pos (by omega))) (fun _ => ?_)
          refine st_go hK rfl rfl ?_
          refine st_go hK rfl rfl ?_
          refine st_ifn hK rfl rfl (nI_leI (a := 8) (b := m) (by omega) (by omega)) (fun _ => ?_) (fun c => absurd (by omega) c)
          refine st_go hK rfl rfl ?_
          refine st_go hK rfl rfl ?_
          change K _ [some (.ref 146), some (.int (nI n)), some (.int (nI i)), some (.int (nI m)), some (.int f), some (.int (nI (q + 1))), some (.int (1 : Int32)), some (.int (0 : Int32))] _ _
          refine st_go hK rfl rfl ?_
          refine st_ifn hK rfl rfl (not_congr (nI_eq (a := q + 1) (b := 0) (by omega) (by omega))) (fun _ => ?_) (fun c => absurd (by omega) c)
          refine st_go hK rfl rfl ?_
          rw [nI_dec]
          refine st_go hK rfl rfl ?_
          refine st_if hK rfl rfl (fun c => absurd c (by decide)) (fun _ => ?_)
          refine st_go hK rfl rfl ?_
          refine st_if hK rfl rfl (fun c => absurd c (by decide)) (fun _ => ?_)
          refine st_go hK rfl rfl ?_
          refine st_go hK rfl rfl ?_
          change K _ [some (.ref 146), some (.int (nI n)), some (.int (nI i)), some (.int (nI m)), some (.int (nI m)), some (.int (nI q)), some (.int (1 : Int32)), some (.int (0 : Int32))] _ _
          refine st_go hK rfl rfl ?_
          refine st_getr hK rfl qf_146_9 ?_
          refine st_go hK rfl rfl ?_
          refine ga (e := m) (v := nI a) hK rfl qa_151 rfl (by omega) rfl j2 ?_
          refine st_go hK rfl rfl ?_
          change K _ [some (.ref 146), some (.int (nI n)), some (.int (nI i)), some (.int (nI a)), some (.int (nI m)), some (.int (nI q)), some (.int (1 : Int32)), some (.int (0 : Int32))] _ _
          refine st_go hK rfl rfl ?_
          refine st_go hK rfl rfl ?_
          exact ihd (e + 1) a (W b ++ 41 :: rest) _ _ ⟨m, rest, a, b, z1, z2, z3, pa_a, ea', eb', nab, la, lb, hR, Or.inl ⟨rfl, rfl⟩⟩ na ea2
      · have hm : nodeN s (σ 7) m := Or.inr ⟨m8, m15, ml⟩
        have ea2 : gtx rest q = gtx (W n) i := ea
        refine st_go hK rfl rfl ?_
        refine st_if hK rfl rfl (fun c => absurd c (nI_pos (by omega))) (fun _ => ?_)
        refine st_go hK rfl rfl ?_
        refine st_go hK rfl rfl ?_
        refine st_ifn hK rfl rfl (nI_leI (a := 8) (b := m) (by omega) (by omega)) (fun _ => ?_) (fun c => absurd (by omega) c)
        refine st_go hK rfl rfl ?_
        refine st_go hK rfl rfl ?_
        change K _ [some (.ref 146), some (.int (nI n)), some (.int (nI i)), some (.int (nI m)), some (.int f), some (.int (nI (q + 1))), some (.int (0 : Int32)), some (.int (0 : Int32))] _ _
        refine st_go hK rfl rfl ?_
        refine st_ifn hK rfl rfl (not_congr (nI_eq (a := q + 1) (b := 0) (by omega) (by omega))) (fun _ => ?_) (fun c => absurd (by omega) c)
        refine st_go hK rfl rfl ?_
        rw [nI_dec]
        refine st_go hK rfl rfl ?_
        refine st_if hK rfl rfl (fun _ => ?_) (fun c => absurd (by decide) c)
        exact aft e m rest _ _ _ hR hm ea2
  refine st_go hK rfl rfl ?_
  refine st_go hK rfl rfl ?_
  change K _ [some (.ref 146), some (.int (nI n)), some (.int (nI i)), some (.int (nI n)), _, _, _, _] _ _
  refine st_go hK rfl rfl ?_
  refine st_go hK rfl rfl ?_
  change K _ [some (.ref 146), some (.int (nI n)), some (.int (nI i)), some (.int (nI n)), some (.int (nI n)), _, _, _] _ _
  refine st_go hK rfl rfl ?_
  refine st_go hK rfl rfl ?_
  change K _ [some (.ref 146), some (.int (nI n)), some (.int (nI i)), some (.int (nI n)), some (.int (nI n)), some (.int (nI i)), _, _] _ _
  refine st_go hK rfl rfl ?_
  refine st_go hK rfl rfl ?_
  change K _ [some (.ref 146), some (.int (nI n)), some (.int (nI i)), some (.int (nI n)), some (.int (nI n)), some (.int (nI i)), some (.int (1 : Int32)), _] _ _
  exact (loop i hi).1 0 n [] _ _ ⟨rfl, rfl⟩ hn (by rw [List.append_nil])
end
section
variable {d : Nat} {x y : Int32}

theorem sim_shown : SimI (d + 16) m_CW_shown m_Mo_shown [.int x, .int y] := by
  intro σ lam ⟨s, nx, c, n, hI⟩
  have g := hI.1.1
  have mw := hI.2.1.1
  have te := hI.2.1.2.1
  have es : σ 1 8 = nI s := g.1.1
  have h8 : s ≤ 8 := g.1.2.1
  obtain ⟨⟨hnx, hc, h661, h662, h13⟩, hh⟩ := hI.2.2.2.1
  have md := hI.1.2.1
  have pd := hI.1.2.2.1
  have vr : VR (mv σ) 1 s := te.vr h8 g.2.1
  obtain ⟨ρ, hρ⟩ := g.1.2.2.2.2.2.2
  have hTx := tx_ex g.1
  by_cases hb : (∃ n, n < 15 ∧ x = nI n ∧ nodeN s (σ 7) n) ∧ 0 ≤ y
  · obtain ⟨⟨m, m15, rfl, hm⟩, hy⟩ := hb
    have hn : ∃ n, n < 15 ∧ nI m = nI n ∧ nodeN s (σ 7) n := ⟨m, m15, rfl, hm⟩
    obtain ⟨i, hi, rfl⟩ := nI_of (Int32.not_lt.mpr hy)
    refine zi (L := [some (.ref 0), some (.int (nI m)), some (.int (nI i))]) rfl rfl (fun K hK => ?_)
    refine st_go hK rfl rfl ?_
    refine st_getr hK rfl qf_0_0 ?_
    refine st_go hK rfl rfl ?_
    refine cv1 hK rfl qc_1 (Nat.le_of_ble_eq_true rfl) ?_
    refine z_hasNode' hT1 g.1 (fun _ => ?_) (fun c => absurd hn c)
    change K _ _ (_ :: _) _
    refine st_if hK rfl rfl (fun c => absurd c (by decide)) (fun _ => ?_)
    refine st_go hK rfl rfl ?_
    refine st_if hK rfl rfl (fun _ => ?_) (fun c => absurd (nI_pos' (by omega)) c)
    refine st_go hK rfl rfl ?_
    refine st_go hK rfl rfl ?_
    refine st_go hK rfl rfl ?_
    refine cv2 hK rfl qc_0 (Nat.le_of_ble_eq_true rfl) ?_
    refine z_shownByte g.1 md hρ hTx hm hi ?_
    change K _ _ (_ :: _) _
    refine st_ret hK rfl rfl ?_
    obtain ⟨mw2, te2, l2, k2, mv2⟩ := hI.mf (τ := σ) (fun _ _ => rfl)
    refine zi (L := [some (.ref 146), some (.int (nI m)), some (.int (nI i))]) rfl rfl (fun K2 hK2 => ?_)
    refine st_go hK2 rfl rfl ?_
    refine st_go hK2 rfl rfl ?_
    refine cv1 hK2 rfl qc_146 (Nat.le_of_ble_eq_true rfl) ?_
    refine z_misNode' hI (fun _ _ => rfl) (fun _ => ?_) (fun c => absurd hn c)
    change K2 _ _ (_ :: _) _
    refine st_if hK2 rfl rfl (fun c => absurd c (by decide)) (fun _ => ?_)
    refine st_go hK2 rfl rfl ?_
    refine st_if hK2 rfl rfl (fun c => absurd c (nI_pos (by omega))) (fun _ => ?_)
    refine st_go hK2 rfl rfl ?_
    refine st_go hK2 rfl rfl ?_
    refine st_go hK2 rfl rfl ?_
    refine cv2 hK2 rfl qc_146 (Nat.le_of_ble_eq_true rfl) ?_
    refine z_byteOf mw2 te2 g.1 hρ hTx hm hi ?_
    change K2 _ _ (_ :: _) _
    refine st_go hK2 rfl rfl ?_
    refine st_ret hK2 rfl rfl ?_
    exact Res.mk hI
  · skip
    refine zi (L := [some (.ref 0), some (.int x), some (.int y)]) rfl rfl (fun K hK => ?_)
    refine st_go hK rfl rfl ?_
    refine st_getr hK rfl qf_0_0 ?_
    refine st_go hK rfl rfl ?_
    refine cv1 hK rfl qc_1 (Nat.le_of_ble_eq_true rfl) ?_
    refine z_hasNode' hT1 g.1 (fun hn => ?_) (fun hn => ?_)
    · change K _ _ (_ :: _) _
      refine st_if hK rfl rfl (fun c => absurd c (by decide)) (fun _ => ?_)
      refine st_go hK rfl rfl ?_
      refine st_if hK rfl rfl (fun c => absurd c (fun z => hb ⟨hn, z⟩)) (fun _ => ?_)
      refine st_go hK rfl rfl ?_
      refine st_go hK rfl rfl ?_
      refine cv1 hK rfl qc_0 (Nat.le_of_ble_eq_true rfl) ?_
      refine z_rbad ?_
      change K _ _ (_ :: _) _
      refine st_ret hK rfl rfl ?_
      obtain ⟨mw2, te2, l2, k2, mv2⟩ := hI.mf (τ := (cw_up σ 0 6 (σ 0 6 + 1))) (fun p hp => up_ne (by omega))
      refine zi (L := [some (.ref 146), some (.int x), some (.int y)]) rfl rfl (fun K2 hK2 => ?_)
      refine st_go hK2 rfl rfl ?_
      refine st_go hK2 rfl rfl ?_
      refine cv1 hK2 rfl qc_146 (Nat.le_of_ble_eq_true rfl) ?_
      refine z_misNode' hI (fun p hp => up_ne (by omega)) (fun hn2 => ?_) (fun hn2 => ?_)
      · change K2 _ _ (_ :: _) _
        refine st_if hK2 rfl rfl (fun c => absurd c (by decide)) (fun _ => ?_)
        refine st_go hK2 rfl rfl ?_
        refine st_if hK2 rfl rfl (fun _ => ?_) (fun c => absurd (Int32.not_le.mp (fun z => hb ⟨hn2, z⟩)) c)
        refine st_go hK2 rfl rfl ?_
        refine cv0 hK2 rfl qc_146 (Nat.le_of_ble_eq_true rfl) ?_
        refine z_mbad ?_
        change K2 _ _ (_ :: _) _
        refine st_ret hK2 rfl rfl ?_
        exact Res.mk (hI.err (k := 0) (by decide))
      · change K2 _ _ (_ :: _) _
        refine st_if hK2 rfl rfl (fun _ => ?_) (fun c => absurd (by decide) c)
        refine st_go hK2 rfl rfl ?_
        refine cv0 hK2 rfl qc_146 (Nat.le_of_ble_eq_true rfl) ?_
        refine z_mbad ?_
        change K2 _ _ (_ :: _) _
        refine st_ret hK2 rfl rfl ?_
        exact Res.mk (hI.err (k := 0) (by decide))
    · change K _ _ (_ :: _) _
      refine st_if hK rfl rfl (fun _ => ?_) (fun c => absurd (by decide) c)
      refine st_go hK rfl rfl ?_
      refine st_go hK rfl rfl ?_
      refine cv1 hK rfl qc_0 (Nat.le_of_ble_eq_true rfl) ?_
      refine z_rbad ?_
      change K _ _ (_ :: _) _
      refine st_ret hK rfl rfl ?_
      obtain ⟨mw2, te2, l2, k2, mv2⟩ := hI.mf (τ := (cw_up σ 0 6 (σ 0 6 + 1))) (fun p hp => up_ne (by omega))
      refine zi (L := [some (.ref 146), some (.int x), some (.int y)]) rfl rfl (fun K2 hK2 => ?_)
      refine st_go hK2 rfl rfl ?_
      refine st_go hK2 rfl rfl ?_
      refine cv1 hK2 rfl qc_146 (Nat.le_of_ble_eq_true rfl) ?_
      refine z_misNode' hI (fun p hp => up_ne (by omega)) (fun hn2 => ?_) (fun hn2 => ?_)
      · change K2 _ _ (_ :: _) _
        refine st_if hK2 rfl rfl (fun c => absurd c (by decide)) (fun _ => ?_)
        refine st_go hK2 rfl rfl ?_
        refine st_if hK2 rfl rfl (fun _ => ?_) (fun c => absurd (Int32.not_le.mp (fun z => hb ⟨hn2, z⟩)) c)
        refine st_go hK2 rfl rfl ?_
        refine cv0 hK2 rfl qc_146 (Nat.le_of_ble_eq_true rfl) ?_
        refine z_mbad ?_
        change K2 _ _ (_ :: _) _
        refine st_ret hK2 rfl rfl ?_
        exact Res.mk (hI.err (k := 0) (by decide))
      · change K2 _ _ (_ :: _) _
        refine st_if hK2 rfl rfl (fun _ => ?_) (fun c => absurd (by decide) c)
        refine st_go hK2 rfl rfl ?_
        refine cv0 hK2 rfl qc_146 (Nat.le_of_ble_eq_true rfl) ?_
        refine z_mbad ?_
        change K2 _ _ (_ :: _) _
        refine st_ret hK2 rfl rfl ?_
        exact Res.mk (hI.err (k := 0) (by decide))
end
