section
variable {cM sM : Nat → Nat} {M pc : Nat}
theorem so_table {lo hi df : Int} {offs : Array Int} {len : Nat} {tg : List Nat} {dflt : Nat} (hd : decode (cw_b M) pc = .ok (.tableswitch df lo hi offs, len)) (h1 : offs.toList.map (fun o => (pc : Int) + o) = tg.map (fun (t : Nat) => (t : Int))) (h2 : hi + 1 = lo + tg.length) (h3 : (pc : Int) + df = (dflt : Int)) : cw_SN cM sM M pc (s_table lo tg dflt) := by
  intro p l e R s m args below meth c D cs ad A sh cells slots mc ms Qc free d C Q L S h X ⟨bc, bs, hw⟩ hsh hL H locs ls hP hS hl
  obtain ⟨⟨hx, hb, -⟩, -⟩ := X
  unfold s_table at hw
  split at hw
  · rename_i x r
    split at hw
    · rename_i hin
      have hk : (x.toInt - lo).toNat < tg.length := by omega
      have hlen : offs.toList.length = tg.length := by
        have := congrArg List.length h1
        simpa using this
      have hk2 : (x.toInt - lo).toNat < offs.size := by rw [← Array.length_toList]; omega
      have he : (pc : Int) + offs[(x.toInt - lo).toNat] = ((tg.getD (x.toInt - lo).toNat dflt : Nat) : Int) := by
        have h4 := congrArg (fun q : List Int => q[(x.toInt - lo).toNat]?) h1
        simp only [List.getElem?_map, Array.getElem?_toList, Array.getElem?_eq_getElem hk2, List.getElem?_eq_getElem hk, Option.map_some, Option.some.injEq] at h4
        rw [h4, List.getD_eq_getElem?_getD, List.getElem?_eq_getElem hk]
        rfl
      exact lv_tableIn hx hb hd (by omega) (by omega) (Array.getElem?_eq_getElem hk2) he (hw hsh hL H locs ls hP hS hl)
    · rename_i hin
      exact lv_tableOut hx hb hd (by omega) h3 (hw hsh hL H locs ls hP hS hl)
  · exact hw.elim
theorem so_lookup {df : Int} {ps : Array (Int × Int)} {len : Nat} {ks : List (Int × Nat)} {dflt : Nat} (hd : decode (cw_b M) pc = .ok (.lookupswitch df ps, len)) (h1 : (ps.toList.zip (ps.toList.drop 1)).all (fun (a, next) => a.1 < next.1) = true) (h2 : ∀ k : Int, (pc : Int) + Op.lookupswitch.offset ps.toList df k = (((ks.lookup k).getD dflt : Nat) : Int)) : cw_SN cM sM M pc (s_switch ks dflt) := by
  intro p l e R s m args below meth c D cs ad A sh cells slots mc ms Qc free d C Q L S h X ⟨bc, bs, hw⟩ hsh hL H locs ls hP hS hl
  obtain ⟨⟨hx, hb, -⟩, -⟩ := X
  unfold s_switch at hw
  split at hw
  · exact lv_lookup hx hb hd h1 rfl (h2 _) (hw hsh hL H locs ls hP hS hl)
  · exact hw.elim
end
theorem cw_wp_mono {cM sM : Nat → Nat} {C : Nat → List Value → cw_H → (Option Value → cw_H → Prop) → Prop} {K K' : Nat → cw_L → List Value → cw_H → Prop} {Q Q' : Option Value → cw_H → Prop} {bc bs : Nat} {a : Option cw_A} (hC : ∀ M as h (P P' : Option Value → cw_H → Prop), (∀ r g, P r g → P' r g) → C M as h P → C M as h P') (hK : ∀ pc L S h, K pc L S h → K' pc L S h) (hQ : ∀ r h, Q r h → Q' r h) (h : cw_wp cM sM C K Q bc bs a) : cw_wp cM sM C K' Q' bc bs a := by
  rcases a with _ | ⟨_ | ⟨_ | ⟨_ | ⟨_ | ⟨_ | _⟩⟩⟩⟩⟩
  · exact h
  · exact hK _ _ _ _ h
  · exact ⟨fun q => hK _ _ _ _ (h.1 q), fun q => hK _ _ _ _ (h.2 q)⟩
  · exact hC _ _ _ _ _ (fun r g z => hK _ _ _ _ z) h
  · exact hQ _ _ h
  · exact ⟨h.1, hK _ _ _ _ h.2⟩
  · exact ⟨h.1, hC _ _ _ _ _ (fun r g z => ⟨z.1, z.2.1, z.2.2.1, hK _ _ _ _ z.2.2.2⟩) h.2⟩
theorem cw_wp_Q {cM sM : Nat → Nat} {C : Nat → List Value → cw_H → (Option Value → cw_H → Prop) → Prop} {K : Nat → cw_L → List Value → cw_H → Prop} {Q Q' : Option Value → cw_H → Prop} {bc bs : Nat} {a : Option cw_A} (hQ : ∀ r h, Q r h → Q' r h) (h : cw_wp cM sM C K Q bc bs a) : cw_wp cM sM C K Q' bc bs a := by
  rcases a with _ | ⟨_ | ⟨_ | ⟨_ | ⟨_ | ⟨_ | _⟩⟩⟩⟩⟩
  · exact h
  · exact h
  · exact h
  · exact h
  · exact hQ _ _ h
  · exact h
  · exact h
theorem cw_X_mono {tb : Nat → Nat → Option cw_S} {mx cM sM : Nat → Nat} : ∀ (d M : Nat) (as : List Value) (h : cw_H) (Q Q' : Option Value → cw_H → Prop), (∀ r g, Q r g → Q' r g) → cw_X tb mx cM sM d M as h Q → cw_X tb mx cM sM d M as h Q' := by
  intro d M as h Q Q' hQ hX
  cases d with
  | zero => exact ⟨hX.1, fun K hK => hX.2 K fun pc L S g sem e hw => hK pc L S g sem e (cw_wp_Q hQ hw)⟩
  | succ d => exact ⟨hX.1, fun K hK => hX.2 K fun pc L S g sem e hw => hK pc L S g sem e (cw_wp_Q hQ hw)⟩
theorem cw_lv_args {ad : Nat → Nat} : ∀ (as : List Value) (i j : Nat) (v : Value), as.all (fun v => v.category == 1) = true → as[j]? = some v → (i + j, cw_tr ad v) ∈ lv_args i (as.map (cw_tr ad))
  | [], _, _, _, _, h => by simp at h
  | a :: as, i, j, v, hc, h => by
    rw [List.all_cons, Bool.and_eq_true] at hc
    have hca : a.category = 1 := by simpa using hc.1
    show _ ∈ (i, cw_tr ad a) :: lv_args (if (cw_tr ad a).category = 2 then i + 2 else i + 1) (as.map (cw_tr ad))
    rw [cw_tr_cat, hca, if_neg (by decide)]
    cases j with
    | zero =>
      simp at h
      subst h
      exact List.mem_cons_self
    | succ j =>
      simp at h
      have := cw_lv_args (ad := ad) as (i + 1) j v hc.2 h
      rw [show i + 1 + j = i + (j + 1) by omega] at this
      exact List.mem_cons_of_mem _ this
theorem cw_sl_len {ad : Nat → Nat} : ∀ (as : List Value), as.all (fun v => v.category == 1) = true → (lg_sl (as.map (cw_tr ad))).length = as.length
  | [], _ => rfl
  | a :: as, hc => by
    rw [List.all_cons, Bool.and_eq_true] at hc
    have hca : a.category = 1 := by simpa using hc.1
    have ih := cw_sl_len (ad := ad) as hc.2
    rw [List.map_cons]
    unfold lg_sl at ih ⊢
    simp only [List.flatMap_cons, List.length_append, List.length_cons, ih]
    have : (cw_tr ad a).category = 1 := by rw [cw_tr_cat]; exact hca
    simp [this]
    omega
theorem cw_entry_len {n : Nat} {as : List Value} (h : cw_aok n as = true) : (cw_entry n as).length = n := by
  unfold cw_aok at h
  simp only [Bool.and_eq_true, decide_eq_true_eq] at h
  unfold cw_entry
  simp
  omega
theorem cw_entry_has {ad : Nat → Nat} {n : Nat} {as : List Value} (h : cw_aok n as = true) : lv_has ((lg_sl (as.map (cw_tr ad)) ++ List.replicate (n - (lg_sl (as.map (cw_tr ad))).length) Slot.unset).toArray) n (cw_pr ad (cw_entry n as)) := by
  unfold cw_aok at h
  simp only [Bool.and_eq_true, decide_eq_true_eq] at h
  refine (lv_entry (as.map (cw_tr ad)) (n := n) (by rw [cw_sl_len as h.1]; exact h.2)).le fun q hq => ?_
  obtain ⟨v, h1, h2⟩ := cw_pr_mem.mp hq
  have hv : as[q.1]? = some v := by
    unfold cw_entry at h1
    rw [List.getElem?_append] at h1
    split at h1
    · rw [List.getElem?_map] at h1
      cases ha : as[q.1]? with
      | none => rw [ha] at h1; cases h1
      | some w => rw [ha] at h1; cases h1; rfl
    · rw [List.getElem?_replicate] at h1
      split at h1 <;> cases h1
  have := cw_lv_args (ad := ad) as 0 q.1 v h.1 hv
  rw [Nat.zero_add, ← h2] at this
  exact this
