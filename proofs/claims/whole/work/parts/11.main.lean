/-! WHAT THE ABSTRACT MACHINE DOES THE REAL ONE DOES -/
def cw_TN (tb : Nat → Nat → Option cw_S) (cM sM : Nat → Nat) : Prop := ∀ (M pc : Nat) (sem : cw_S), cw_isN M = true → tb M pc = some sem → cw_SN cM sM M pc sem
def cw_TA (tb : Nat → Nat → Option cw_S) (cM sM : Nat → Nat) : Prop := ∀ (M pc : Nat) (sem : cw_S), cw_isC M = true → tb M pc = some sem → cw_SN cM sM M pc sem ∨ cw_SA cM sM M pc sem
section
variable {tb : Nat → Nat → Option cw_S} {cM sM : Nat → Nat}
/-- a body without new cells, over contracts of what it calls -/
theorem cw_bodyN (hT : cw_TN tb cM sM) {d M : Nat} {as : List Value} {h : cw_H} {Q : Option Value → cw_H → Prop} {C : Nat → List Value → cw_H → (Option Value → cw_H → Prop) → Prop} {l : Launch} {D : va_G} {cs : Nat → ClassId} {ad : Nat → Nat} (hM : cw_isN M = true) (hap : cw_ap (fun _ => True) ad h.length)
    (hC : ∀ (M' : Nat) (as : List Value) (g : cw_H) (Q' : Option Value → cw_H → Prop), cw_isN M' = true → C M' as g Q' → cw_ap (fun _ => True) ad g.length → ∃ d' : Nat, d = d' + 1 ∧ cw_MN l D cs ad d' M' as g Q')
    (hok : cw_aok (cw_mx M) as = true) (hX : ∀ K, cw_Cl tb cM sM C d M h Q K → K 0 (cw_entry (cw_mx M) as) [] h) : cw_MN l D cs ad d M as h Q := by
  have hNN := hM
  unfold cw_isN at hNN
  simp only [Bool.and_eq_true, decide_eq_true_eq] at hNN
  have hM' : M < 195 := hNN.1.1
  refine Met.ofW (cc := cw_b M) (maxL := cw_mx M) (ret := cw_rt M) (cw_facts hM').1 rfl ?_
  intro p e s m args below meth c s₁ B hml hv
  obtain ⟨rfl, hK, hP⟩ := hv
  have hts0 := atoms_spec (ws := cw_ws M) B.pre
  have hts : ∀ w ∈ cw_t, w.before (as.map (cw_tr ad)).toArray s = true := fun w hw => hts0 w (List.mem_cons_of_mem _ hw)
  have hown : s.vm.findClass (cw_y M).cls = some m.cls := findClass_of_methodNamed B.named
  have hnam : meth.name = (cw_y M).name := (name_of_methodNamed B.named B.method).1
  have hcl : cw_Cl tb cM sM C d M h Q (cw_G p l e (headSpec (cw_ws M) (cw_rm d 0 0)).room s m (as.map (cw_tr ad)).toArray below meth c D cs ad (cw_Ad ad (cw_hk h).length) (cw_hk h) 0 0 (MQ below (cw_QN D cs ad (cw_hk h) Q) (as.map (cw_tr ad)).toArray s 0 0 (cw_Ad ad (cw_hk h).length))) := by
    intro pc L S g sem hsem hw
    refine hT M pc sem hM hsem p l e _ s m _ below meth c D cs ad _ _ 0 0 0 0 _ _ d C Q L S g ⟨⟨B.exec, B.bytes, hml, B.returns, B.notSynchronized, hown, hts, hnam⟩, hK, ⟨?_, fun i hi => ⟨i, hi, rfl⟩⟩, ⟨Nat.le_refl d, Nat.le_refl (100 * d), Nat.zero_le _, Nat.zero_le _⟩, ⟨Nat.le_refl _, Nat.le_refl _⟩, ?_, ?_, fun q hq => hq⟩ ⟨_, _, hw⟩
    · rw [cw_hk_len]
      exact hap.1
    · intro M2 as2 g2 Q2 hN2 hC2 hsh2
      exact hC M2 as2 g2 Q2 hN2 hC2 (by rw [← cw_hk_len, hsh2, cw_hk_len]; exact hap)
    · intro r h' t locs hQ hsh' hP' hW hS
      exact ⟨⟨r, h', rfl, hQ, hsh', hP'⟩, hS.F rfl⟩
  have := hX _ hcl rfl (by rw [cw_entry_len hok, hml]) s.heap [] _ hP va_S.rf (by rw [hml]; exact cw_entry_has hok)
  rw [lg_entry_eq]
  exact this
/-- a constructor's body -/
theorem cw_bodyA (hT : cw_TA tb cM sM) {d M : Nat} {as : List Value} {h : cw_H} {Q : Option Value → cw_H → Prop} {C : Nat → List Value → cw_H → (Option Value → cw_H → Prop) → Prop} {l : Launch} {D : va_G} {cs : Nat → ClassId} {ad : Nat → Nat} {sz : Nat} (hM : cw_isC M = true) (hap : cw_ap (fun _ => True) ad h.length) (hrt : cw_rt M = none)
    (hC : ∀ (M' : Nat) (as : List Value) (g : cw_H) (Q' : Option Value → cw_H → Prop) (ad : Nat → Nat), cw_isN M' = true → C M' as g Q' → cw_ap (fun _ => True) ad g.length → ∃ d' : Nat, d = d' + 1 ∧ cw_MN l D cs ad d' M' as g Q')
    (hCA : ∀ (M' : Nat) (as : List Value) (g : cw_H) (Q' : Option Value → cw_H → Prop), cw_isC M' = true → C M' as g Q' → (∀ r g, Q' r g → r = none) → ∃ d' : Nat, d = d' + 1 ∧ ∀ (ad : Nat → Nat) (sz : Nat), cw_ap (fun _ => True) ad g.length → cw_MA cM sM l D cs ad d' sz M' as g Q')
    (hmono : ∀ M as h (P P' : Option Value → cw_H → Prop), (∀ r g, P r g → P' r g) → C M as h P → C M as h P')
    (hQ : ∀ r h', Q r h' → r = none)
    (hok : cw_aok (cw_mx M) as = true) (hX : ∀ K, cw_Cl tb cM sM C d M h Q K → K 0 (cw_entry (cw_mx M) as) [] h) : cw_MA cM sM l D cs ad d sz M as h Q := by
  have hNN := hM
  unfold cw_isC at hNN
  simp only [Bool.and_eq_true, decide_eq_true_eq] at hNN
  have hM' : M < 195 := hNN.1.1
  refine Met.ofW (cc := cw_b M) (maxL := cw_mx M) (ret := cw_rt M) (cw_facts hM').1 rfl ?_
  intro p e s m args below meth c s₁ B hml hv
  obtain ⟨rfl, hsz, hK, hP⟩ := hv
  subst hsz
  have hts0 := atoms_spec (ws := cw_ws M) B.pre
  have hts : ∀ w ∈ cw_t, w.before (as.map (cw_tr ad)).toArray s = true := fun w hw => hts0 w (List.mem_cons_of_mem _ hw)
  have hown : s.vm.findClass (cw_y M).cls = some m.cls := findClass_of_methodNamed B.named
  have hnam : meth.name = (cw_y M).name := (name_of_methodNamed B.named B.method).1
  have hcl : cw_Cl tb cM sM C d M h Q (cw_KA p l e (headSpec (cw_ws M) (cw_rm d (cM M) (sM M))).room s m (as.map (cw_tr ad)).toArray below meth c D cs ad (cw_AA ad h.length s.heap.size) h.length (cw_sl h) (h.length + cM M) (cw_sl h + sM M) (MQ below (cw_QA D cs ad h.length s.heap.size Q) (as.map (cw_tr ad)).toArray s (cM M) (sM M) (cw_AA ad h.length s.heap.size))) := by
    intro pc L S g sem hsem hw
    rcases hT M pc sem hM hsem with hSN | hSA
    · intro ad1 hag hap1 hn hs hsh
      have hroom : g.length - h.length ≤ cM M ∧ cw_sl g - cw_sl h ≤ sM M := ⟨by omega, by omega⟩
      refine hSN p l e _ s m _ below meth c D cs ad1 _ _ _ _ (cM M) (sM M) _ _ d C Q L S g ⟨⟨B.exec, B.bytes, hml, B.returns, B.notSynchronized, hown, hts, hnam⟩, hK, ?_, ⟨Nat.le_refl d, Nat.le_refl (100 * d), hroom.1, hroom.2⟩, hroom, ?_, ?_, fun q hq => hq⟩ ⟨_, _, cw_wp_mono hmono (fun pc' L' S' g' hk => ?_) (fun _ _ z => z) hw⟩ hsh
      · rw [cw_hk_len]
        exact hap1
      · intro M2 as2 g2 Q2 hN2 hC2 hsh2
        exact hC M2 as2 g2 Q2 ad1 hN2 hC2 ⟨by rw [← cw_hk_len, hsh2, cw_hk_len]; exact hap1.1, fun _ _ => trivial⟩
      · intro r h' t locs hQ' hsh' hP' hW hS
        have hlen : h'.length = g.length := by rw [← cw_hk_len, hsh', cw_hk_len]
        have hr0 := hQ r h' hQ'
        subst hr0
        exact ⟨⟨h', ad1, rfl, hQ', by omega, hag, by rw [hlen]; exact hap1, hP'⟩, hS.F rfl⟩
      · intro hsh'
        have hlen : g'.length = g.length := by rw [← cw_hk_len, hsh', cw_hk_len]
        have hsl : cw_sl g' = cw_sl g := cw_hk_sl hsh'
        have := hk ad1 hag (by rw [hlen]; exact hap1) ⟨by omega, by omega⟩ ⟨by omega, by omega⟩
        rw [hsh', hlen, hsl] at this
        exact this hsh'
    · exact hSA p l e _ s m _ below meth c D cs ad _ _ _ _ d C Q L S g ⟨⟨B.exec, B.bytes, hml, hown, hts⟩, hK, ⟨Nat.le_refl d, Nat.le_refl (100 * d), rfl, rfl⟩, fun q hq => Or.inr hq, fun M2 as2 g2 Q2 hC2 hX2 hn2 => hCA M2 as2 g2 Q2 hC2 hX2 hn2⟩ hw
  have := hX _ hcl ad (fun _ _ => rfl) ⟨hap.1, fun i hi => Or.inl ⟨i, hi, rfl⟩⟩ ⟨Nat.le_refl _, Nat.le_add_right _ _⟩ ⟨Nat.le_refl _, Nat.le_add_right _ _⟩ rfl (by rw [cw_entry_len hok, hml]) s.heap [] _ hP va_S.rf (by rw [hml]; exact cw_entry_has hok)
  rw [Nat.sub_self, Nat.sub_self] at this
  rw [lg_entry_eq]
  exact this
end
theorem cw_sound {tb : Nat → Nat → Option cw_S} {cM sM : Nat → Nat} (hT : cw_TN tb cM sM) (hTA : cw_TA tb cM sM) (hrt : ∀ M, cw_isC M = true → cw_rt M = none) : ∀ d : Nat,
    (∀ (M : Nat) (as : List Value) (h : cw_H) (Q : Option Value → cw_H → Prop), cw_isN M = true → cw_X tb cw_mx cM sM d M as h Q → ∀ (l : Launch) (D : va_G) (cs : Nat → ClassId) (ad : Nat → Nat), cw_ap (fun _ => True) ad h.length → cw_MN l D cs ad d M as h Q) ∧
    (∀ (M : Nat) (as : List Value) (h : cw_H) (Q : Option Value → cw_H → Prop), cw_isC M = true → cw_X tb cw_mx cM sM d M as h Q → (∀ r h', Q r h' → r = none) → ∀ (l : Launch) (D : va_G) (cs : Nat → ClassId) (ad : Nat → Nat) (sz : Nat), cw_ap (fun _ => True) ad h.length → cw_MA cM sM l D cs ad d sz M as h Q) := by
  intro d
  induction d with
  | zero =>
    refine ⟨fun M as h Q hM hX l D cs ad hap => ?_, fun M as h Q hM hX hQ l D cs ad sz hap => ?_⟩
    · exact cw_bodyN hT (C := fun _ _ _ _ => False) hM hap (fun _ _ _ _ _ z => z.elim) hX.1 hX.2
    · exact cw_bodyA hTA (C := fun _ _ _ _ => False) hM hap (hrt M hM) (fun _ _ _ _ _ _ z => z.elim) (fun _ _ _ _ _ z _ => z.elim) (fun _ _ _ _ _ _ z => z) hQ hX.1 hX.2
  | succ d ih =>
    refine ⟨fun M as h Q hM hX l D cs ad hap => ?_, fun M as h Q hM hX hQ l D cs ad sz hap => ?_⟩
    · exact cw_bodyN hT (C := cw_X tb cw_mx cM sM d) hM hap (fun M' as' g Q' hN hX' hap' => ⟨d, rfl, ih.1 M' as' g Q' hN hX' l D cs ad hap'⟩) hX.1 hX.2
    · exact cw_bodyA hTA (C := cw_X tb cw_mx cM sM d) hM hap (hrt M hM) (fun M' as' g Q' ad' hN hX' hap' => ⟨d, rfl, ih.1 M' as' g Q' hN hX' l D cs ad' hap'⟩) (fun M' as' g Q' hC hX' hn' => ⟨d, rfl, fun ad' sz' hap' => ih.2 M' as' g Q' hC hX' hn' l D cs ad' sz' hap'⟩) (fun M' as' h' P P' hP hX' => cw_X_mono d M' as' h' P P' hP hX') hQ hX.1 hX.2
