section
variable {cM sM : Nat → Nat} {M pc : Nat}
theorem cw_ct_map {ad : Nat → Nat} {S : List Value} : ((S.map (cw_tr ad)).map fun v => v.category).sum = cw_ct S := by
  unfold cw_ct
  rw [List.map_map]
  congr 1
  apply List.map_congr_left
  intro v _
  exact cw_tr_cat ad v
theorem cw_pop_eq {n : Nat} {S as r : List Value} (h : cw_pop n S = (as, r)) (hn : n ≤ S.length) : S = as.reverse ++ r ∧ as.length = n := by
  unfold cw_pop at h
  cases h
  simp [hn]
/-- the contract of a callee, at a call -/
theorem cw_pre {D : va_G} {cs : Nat → ClassId} {ad : Nat → Nat} {as : List Value} {h : cw_H} {s : State} {H : Heap} (hK : cw_K D cs s) (hP : va_P D cw_cl (cw_wd cs ad h) H) : PreS s H (cw_PN D cs ad as h) (as.map (cw_tr ad)) :=
  ⟨cw_blind, fun U hU hW => ⟨rfl, hK.warm hW, by rw [hU]; exact hP⟩⟩
theorem so_callV {ci M' n idx : Nat} {T : u_T} {N : Nat} (hd : decode (cw_b M) pc = .ok (.invokevirtual idx, 3)) (hc : cw_cl[ci]? = some ((cw_y M').cls, T, N)) (h1 : Cond.methodLink (cw_y M).cls idx (cw_y M') ∈ cw_t) (h2 : Cond.instanceMethod (cw_y M') ∈ cw_t) (h3 : Cond.selects (cw_y M').cls (cw_y M') (cw_y M') ∈ cw_t) (hn : cw_np M' = n) (hN : cw_isN M' = true) : cw_SN cM sM M pc (s_callV ci M' n (pc + 3)) := by
  intro p l e R s m args below meth c D cs ad A sh cells slots mc ms Qc free d C Q L S h X ⟨bc, bs, hw⟩ hsh hL H locs ls hP hS hl
  obtain ⟨⟨hx, hb, hml, -, -, hown, hts, -⟩, hK, hap, hR, -, hC, -⟩ := X
  have hNN := hN
  unfold cw_isN at hNN
  simp only [Bool.and_eq_true, decide_eq_true_eq] at hNN
  have hM' : M' < 195 := hNN.1.1
  have hmx : cw_mx M' ≤ 40 := hNN.2
  unfold s_callV at hw
  split at hw
  · rename_i as p1 r hpop
    split at hw
    · rename_i c1 fs hp
      split at hw
      · rename_i hh
        obtain ⟨g1, g2, g3, g4⟩ := hh
        subst g2
        obtain ⟨eS, eA⟩ := cw_pop_eq hpop g3
        obtain ⟨d', ed, hM⟩ := hC M' _ h _ hN hw hsh
        subst ed
        obtain ⟨f1, f2, f3, f4⟩ := cw_facts hM'
        have hini : Cond.initialized (cw_y M').cls ∈ cw_t := cw_init_in _ (cw_m_mem hM')
        have hgood : GoodIn cw_t (wsV (cw_y M).cls idx (cw_y M').cls (cw_y M') (cw_ws M')) := by
          intro w hw
          unfold wsV at hw
          rcases List.mem_append.mp hw with q | q
          · simp only [List.mem_cons, List.not_mem_nil, or_false] at q
            rcases q with rfl | rfl | rfl | rfl
            · exact ⟨h1, cw_t_good _ h1⟩
            · exact ⟨h2, cw_t_good _ h2⟩
            · exact ⟨h3, cw_t_good _ h3⟩
            · exact ⟨hini, cw_t_good _ hini⟩
          · exact cw_good hM' w q
        have hrun := va_runV (g := F0 m pc ls (S.map (cw_tr ad))) (H := H) (locs := locs) (cells := cells) (slots := slots) (below := below) (meth := meth) (e := e) (As := as.map (cw_tr ad)) (rest := r.map (cw_tr ad)) (b := ad p1) ⟨hx, hb, hml, hown, hts⟩ hM
          (cwV (R := R) (C := (cw_y M').cls) n hts hgood rfl rfl rfl ⟨rfl, f2, f3, by rw [f4, hn]⟩ ⟨by show d' + 1 ≤ R.frames; omega, by show 8 + (cw_mx M' + 11) + 100 * d' ≤ R.locals; omega⟩)
          ⟨cw_blind, va_recv hK.1 hP hc (cw_wd_get hp), (cw_pre hK hP (as := .ref p1 :: as)).2⟩ rfl (by rw [List.length_map]; exact eA) (by show ls.size = cw_mx M; rw [hl.1, hml])
          (by show S.map (cw_tr ad) = _; rw [eS, List.map_append, List.map_reverse]; rfl) (by show 2 * 0 + _ ≤ 8; rw [cw_ct_map]; omega) hd ⟨hR.2.2.1, hR.2.2.2⟩
        rw [hsh] at hrun
        refine cw_cont hrun hS (fun q hq => by obtain ⟨i, hi, rfl⟩ := hq; exact hap.2 i hi) (fun r1 h' H1 locs1 hQ hh' hP1 hS1 => ?_)
        have := hQ hh' hL H1 locs1 ls hP1 hS1 hl
        rw [List.map_append] at this
        cases r1 with
        | none => exact this
        | some v => exact this
      · exact hw.elim
    · exact hw.elim
  · exact hw.elim
theorem so_callS {M' n idx : Nat} (hd : decode (cw_b M) pc = .ok (.invokestatic idx, 3)) (hcl : (cw_y M').cls = (cw_y M).cls) (h1 : Cond.methodLink (cw_y M).cls idx (cw_y M') ∈ cw_t) (h2 : Cond.static (cw_y M') ∈ cw_t) (hn : cw_np M' = n) (hN : cw_isN M' = true) : cw_SN cM sM M pc (s_callS M' n (pc + 3)) := by
  intro p l e R s m args below meth c D cs ad A sh cells slots mc ms Qc free d C Q L S h X ⟨bc, bs, hw⟩ hsh hL H locs ls hP hS hl
  obtain ⟨⟨hx, hb, hml, -, -, hown, hts, -⟩, hK, hap, hR, -, hC, -⟩ := X
  have hNN := hN
  unfold cw_isN at hNN
  simp only [Bool.and_eq_true, decide_eq_true_eq] at hNN
  have hM' : M' < 195 := hNN.1.1
  have hmx : cw_mx M' ≤ 40 := hNN.2
  unfold s_callS at hw
  split at hw
  rename_i as r hpop
  split at hw
  · rename_i hh
    obtain ⟨g1, g3, g4⟩ := hh
    obtain ⟨eS, eA⟩ := cw_pop_eq hpop g3
    obtain ⟨d', ed, hM⟩ := hC M' _ h _ hN hw hsh
    subst ed
    obtain ⟨f1, f2, f3, f4⟩ := cw_facts hM'
    have hini : Cond.initialized (cw_y M').cls ∈ cw_t := cw_init_in _ (cw_m_mem hM')
    have hgood : GoodIn cw_t (wsS (cw_y M).cls idx (cw_y M') (cw_ws M')) := by
      intro w hw
      unfold wsS at hw
      rcases List.mem_append.mp hw with q | q
      · simp only [List.mem_cons, List.not_mem_nil, or_false] at q
        rcases q with rfl | rfl | rfl
        · exact ⟨h1, cw_t_good _ h1⟩
        · exact ⟨h2, cw_t_good _ h2⟩
        · rw [hcl] at hini
          exact ⟨hini, cw_t_good _ hini⟩
      · exact cw_good hM' w q
    have hrun := va_runS (g := F0 m pc ls (S.map (cw_tr ad))) (H := H) (locs := locs) (cells := cells) (slots := slots) (below := below) (meth := meth) (e := e) (As := as.map (cw_tr ad)) (rest := r.map (cw_tr ad)) ⟨hx, hb, hml, hown, hts⟩ hM
      (cwS (R := R) n hts hgood rfl rfl rfl ⟨hcl, f2, f3, by rw [f4, hn]⟩ ⟨by show d' + 1 ≤ R.frames; omega, by show 8 + (cw_mx M' + 11) + 100 * d' ≤ R.locals; omega⟩)
      (cw_pre hK hP) rfl (by rw [List.length_map]; exact eA) (by show ls.size = cw_mx M; rw [hl.1, hml])
      (by show S.map (cw_tr ad) = _; rw [eS, List.map_append, List.map_reverse]) (by show 2 * 0 + _ ≤ 8; rw [cw_ct_map]; omega) hd ⟨hR.2.2.1, hR.2.2.2⟩
    rw [hsh] at hrun
    refine cw_cont hrun hS (fun q hq => by obtain ⟨i, hi, rfl⟩ := hq; exact hap.2 i hi) (fun r1 h' H1 locs1 hQ hh' hP1 hS1 => ?_)
    have := hQ hh' hL H1 locs1 ls hP1 hS1 hl
    rw [List.map_append] at this
    cases r1 with
    | none => exact this
    | some v => exact this
  · exact hw.elim
/-- a static method of a nest mate -/
theorem so_callSN {M' n idx : Nat} {host : String} (hd : decode (cw_b M) pc = .ok (.invokestatic idx, 3)) (h1 : Cond.methodLinkNest (cw_y M).cls idx (cw_y M') host ∈ cw_nest) (h2 : Cond.static (cw_y M') ∈ cw_t) (hn : cw_np M' = n) (hN : cw_isN M' = true) : cw_SN cM sM M pc (s_callS M' n (pc + 3)) := by
  intro p l e R s m args below meth c D cs ad A sh cells slots mc ms Qc free d C Q L S h X ⟨bc, bs, hw⟩ hsh hL H locs ls hP hS hl
  obtain ⟨⟨hx, hb, hml, -, -, hown, hts, -⟩, hK, hap, hR, -, hC, -⟩ := X
  have hNN := hN
  unfold cw_isN at hNN
  simp only [Bool.and_eq_true, decide_eq_true_eq] at hNN
  have hM' : M' < 195 := hNN.1.1
  have hmx : cw_mx M' ≤ 40 := hNN.2
  unfold s_callS at hw
  split at hw
  rename_i as r hpop
  split at hw
  · rename_i hh
    obtain ⟨g1, g3, g4⟩ := hh
    obtain ⟨eS, eA⟩ := cw_pop_eq hpop g3
    obtain ⟨d', ed, hM⟩ := hC M' _ h _ hN hw hsh
    subst ed
    obtain ⟨f1, f2, f3, f4⟩ := cw_facts hM'
    have hini : Cond.initialized (cw_y M').cls ∈ cw_t := cw_init_in _ (cw_m_mem hM')
    have hrun := va_runSN (g := F0 m pc ls (S.map (cw_tr ad))) (H := H) (locs := locs) (cells := cells) (slots := slots) (below := below) (meth := meth) (e := e) (As := as.map (cw_tr ad)) (rest := r.map (cw_tr ad)) ⟨hx, hb, hml, hown, hts⟩ hM
      ⟨va_cnB (R := R) n hts (cw_good hM') rfl rfl rfl (hK.2.1 _ h1) (hts _ hini) ⟨f2, f3, by rw [f4, hn]⟩ ⟨by show d' + 1 ≤ R.frames; omega, by show 8 + (cw_mx M' + 11) + 100 * d' ≤ R.locals; omega⟩, hts _ h2, trivial⟩
      (cw_pre hK hP) rfl (by rw [List.length_map]; exact eA) (by show ls.size = cw_mx M; rw [hl.1, hml])
      (by show S.map (cw_tr ad) = _; rw [eS, List.map_append, List.map_reverse]) (by show 2 * 0 + _ ≤ 8; rw [cw_ct_map]; omega) hd ⟨hR.2.2.1, hR.2.2.2⟩
    rw [hsh] at hrun
    refine cw_cont hrun hS (fun q hq => by obtain ⟨i, hi, rfl⟩ := hq; exact hap.2 i hi) (fun r1 h' H1 locs1 hQ hh' hP1 hS1 => ?_)
    have := hQ hh' hL H1 locs1 ls hP1 hS1 hl
    rw [List.map_append] at this
    cases r1 with
    | none => exact this
    | some v => exact this
  · exact hw.elim
theorem so_obj {idx : Nat} (hd : decode (cw_b M) pc = .ok (.invokespecial idx, 3)) (h1 : Cond.methodLink (cw_y M).cls idx objectInit ∈ cw_t) (h2 : Cond.instanceMethod objectInit ∈ cw_t) (h3 : Cond.code objectInit ⟨#[0xb1]⟩ 1 none ∈ cw_t) : cw_SN cM sM M pc (s_obj (pc + 3)) := by
  intro p l e R s m args below meth c D cs ad A sh cells slots mc ms Qc free d C Q L S h X ⟨bc, bs, hw⟩ hsh hL H locs ls hP hS hl
  obtain ⟨⟨hx, hb, hml, -, -, hown, hts, -⟩, hK, hap, hR, -⟩ := X
  unfold s_obj at hw
  split at hw
  · split at hw
    · rename_i r hh
      exact W.objInit hx hb hown (hts _ h1) (hts _ h2) (hts _ h3) rfl (by show ls.size = _; rw [hl.1]) rfl hd (by omega) (by show 2 * 0 + _ + 12 ≤ _; rw [cw_ct_map]; omega) (hw hsh hL H locs ls hP hS hl)
    · exact hw.elim
  · exact hw.elim
theorem so_max {idx : Nat} (hd : decode (cw_b M) pc = .ok (.invokestatic idx, 3)) (h1 : Cond.methodLink (cw_y M).cls idx Lib.Math.max.name ∈ cw_t) (h2 : Cond.static Lib.Math.max.name ∈ cw_t) (h3 : Cond.initialized "java/lang/Math" ∈ cw_t) (h4 : Cond.code Lib.Math.max.name Lib.Math.max.code 2 (some .int) ∈ cw_t) : cw_SN cM sM M pc (s_max (pc + 3)) := by
  intro p l e R s m args below meth c D cs ad A sh cells slots mc ms Qc free d C Q L S h X ⟨bc, bs, hw⟩ hsh hL H locs ls hP hS hl
  obtain ⟨⟨hx, hb, hml, -, -, hown, hts, -⟩, hK, hap, hR, -⟩ := X
  unfold s_max at hw
  split at hw
  · split at hw
    · rename_i r hh
      exact va_mmax hx hb hl.1.symm hown (hts _ h1) (hts _ h2) (hts _ h3) (hts _ h4) (by omega) (by rw [cw_ct_map]; omega) hR.2.2.1 hR.2.2.2 hd (hw hsh hL H locs ls hP hS hl)
    · exact hw.elim
  · exact hw.elim
theorem so_min {idx : Nat} (hd : decode (cw_b M) pc = .ok (.invokestatic idx, 3)) (h1 : Cond.methodLink (cw_y M).cls idx Lib.Math.min.name ∈ cw_t) (h2 : Cond.static Lib.Math.min.name ∈ cw_t) (h3 : Cond.initialized "java/lang/Math" ∈ cw_t) (h4 : Cond.code Lib.Math.min.name Lib.Math.min.code 2 (some .int) ∈ cw_t) : cw_SN cM sM M pc (s_min (pc + 3)) := by
  intro p l e R s m args below meth c D cs ad A sh cells slots mc ms Qc free d C Q L S h X ⟨bc, bs, hw⟩ hsh hL H locs ls hP hS hl
  obtain ⟨⟨hx, hb, hml, -, -, hown, hts, -⟩, hK, hap, hR, -⟩ := X
  unfold s_min at hw
  split at hw
  · split at hw
    · rename_i r hh
      exact va_mmin hx hb hl.1.symm hown (hts _ h1) (hts _ h2) (hts _ h3) (hts _ h4) (by omega) (by rw [cw_ct_map]; omega) hR.2.2.1 hR.2.2.2 hd (hw hsh hL H locs ls hP hS hl)
    · exact hw.elim
  · exact hw.elim
theorem so_abs {idx : Nat} (hd : decode (cw_b M) pc = .ok (.invokestatic idx, 3)) (h1 : Cond.methodLink (cw_y M).cls idx Lib.Math.abs.name ∈ cw_t) (h2 : Cond.static Lib.Math.abs.name ∈ cw_t) (h3 : Cond.initialized "java/lang/Math" ∈ cw_t) (h4 : Cond.code Lib.Math.abs.name Lib.Math.abs.code 1 (some .int) ∈ cw_t) : cw_SN cM sM M pc (s_abs (pc + 3)) := by
  intro p l e R s m args below meth c D cs ad A sh cells slots mc ms Qc free d C Q L S h X ⟨bc, bs, hw⟩ hsh hL H locs ls hP hS hl
  obtain ⟨⟨hx, hb, hml, -, -, hown, hts, -⟩, hK, hap, hR, -⟩ := X
  unfold s_abs at hw
  split at hw
  · split at hw
    · rename_i r hh
      exact va_mabs hx hb hl.1.symm hown (hts _ h1) (hts _ h2) (hts _ h3) (hts _ h4) (by omega) (by rw [cw_ct_map]; omega) hR.2.2.1 hR.2.2.2 hd (hw hsh hL H locs ls hP hS hl)
    · exact hw.elim
  · exact hw.elim
theorem so_copy {idx : Nat} (hd : decode (cw_b M) pc = .ok (.invokestatic idx, 3)) (h1 : Cond.methodLink (cw_y M).cls idx arraycopyName ∈ cw_t) (h2 : Cond.native arraycopyName ∈ cw_t) (h3 : Cond.static arraycopyName ∈ cw_t) (h4 : Cond.initialized "java/lang/System" ∈ cw_t) : cw_SN cM sM M pc (s_copy (pc + 3)) := by
  intro p l e R s m args below meth c D cs ad A sh cells slots mc ms Qc free d C Q L S h X ⟨bc, bs, hw⟩ hsh hL H locs ls hP hS hl
  obtain ⟨⟨hx, hb, hml, -, -, hown, hts, -⟩, hK, hap, hR, -⟩ := X
  unfold s_copy at hw
  split at hw
  · rename_i n dp q sp p1 r
    split at hw
    · rename_i n0 f n1 g hp hq
      split at hw
      · rename_i hh
        obtain ⟨g1, g2, g3, g4, g5, g6, g7⟩ := hh
        have hD : va_D A (cw_wd cs ad h) := cw_ap.D (by rw [← cw_hk_len, hsh]; exact hap)
        refine va_copyi (D := D) (ty := .int) hx hb hl.1.symm hown (hts _ h1) (hts _ h2) (hts _ h3) (hts _ h4) hK.1 hP hD hS _ _ 0 0 (cw_wd_get hp) (cw_wd_get hq) rfl rfl rfl g3 g4 g5 g6 g7 (fun _ _ => rfl) (by omega) (by rw [cw_ct_map]; show _ + (5 + 2 + 11) ≤ _; omega) hd (fun H1 locs1 hP1 _ hS1 => ?_)
        exact hw ((cw_hk_set hq (by rfl)).trans hsh) hL H1 locs1 ls (cw_wd_set (cs := cs) (c := .inl (0, n1, .inl (va_cpy f g _ _ _))) ▸ hP1) hS1 hl
      · exact hw.elim
    · exact hw.elim
  · exact hw.elim
end
