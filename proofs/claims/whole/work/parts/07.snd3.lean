section
variable {cM sM : Nat → Nat} {M pc : Nat}
theorem so_get {ci k idx N : Nat} {C : String} {T : u_T} (hd : decode (cw_b M) pc = .ok (.getfield idx, 3)) (hc : cw_cl[ci]? = some (C, T, N)) (hin : ∀ w ∈ u_ws C T N, w ∈ cw_t) (hk : k < N) (hf : Cond.fieldLink (cw_y M).cls idx (T k).1 (T k).2.1 (T k).2.2.1 ∈ cw_t) : cw_SN cM sM M pc (s_get ci k (pc + 3)) := by
  intro p l e R s m args below meth c D cs ad A sh cells slots mc ms Qc free d C Q L S h X ⟨bc, bs, hw⟩ hsh hL H locs ls hP hS hl
  obtain ⟨⟨hx, hb, -, -, -, hown, hts, -⟩, hK, -⟩ := X
  unfold s_get at hw
  split at hw
  · split at hw
    · rename_i c1 fs hp
      split at hw
      · rename_i e1
        subst e1
        split at hw
        · rename_i v hv
          refine va_get (D := D) (v := cw_tr ad v) hx hb hts hin hown hK.1 hP _ (cw_wd_get hp) hc k hk (hts _ hf) (fun _ h9 => h9) ?_ hd (hw hsh hL H locs ls hP hS hl)
          rw [List.getElem?_map, hv]
          rfl
        · exact hw.elim
      · exact hw.elim
    · exact hw.elim
  · exact hw.elim
/-- a field's kind and its type -/
def cw_kt (kd : Nat) (ty : FieldType) : Bool := match kd, ty with
  | 0, .int => true
  | 1, .boolean => true
  | 2, .object _ => true
  | 2, .array _ => true
  | _, _ => false
theorem cw_kt_ok {kd : Nat} {ty : FieldType} {ad : Nat → Nat} {v : Value} (h : cw_kt kd ty = true) (hv : cw_takes kd v = true) : narrow ty (cw_tr ad v) = cw_tr ad v ∧ fits ty (cw_tr ad v) = true := by
  unfold cw_kt at h
  split at h
  · cases v <;> first | exact ⟨rfl, rfl⟩ | cases hv
  · cases v with
    | int x =>
      have hx : x = 0 ∨ x = 1 := by simpa [cw_takes] using hv
      rcases hx with rfl | rfl
      · exact ⟨(by decide : narrow .boolean (.int 0) = .int 0), (by decide : fits .boolean (.int 0) = true)⟩
      · exact ⟨(by decide : narrow .boolean (.int 1) = .int 1), (by decide : fits .boolean (.int 1) = true)⟩
    | _ => cases hv
  · cases v <;> first | exact ⟨rfl, rfl⟩ | cases hv
  · cases v <;> first | exact ⟨rfl, rfl⟩ | cases hv
  · cases h
theorem cw_put_eq {cs : Nat → ClassId} {ad : Nat → Nat} {h : cw_H} {p c k : Nat} {fs : List Value} {v : Value} : (cw_wd cs ad h).set p (ad p, .inr (c, (fs.map (cw_tr ad)).set k (cw_tr ad v))) = cw_wd cs ad (h.set p (.inr (c, fs.set k v))) := by
  rw [← List.map_set]
  exact cw_wd_set (cs := cs) (c := .inr (c, fs.set k v))
theorem so_put {ci k kd idx N : Nat} {C : String} {T : u_T} {ty0 : Nat → FieldType} {ty : FieldType} (hd : decode (cw_b M) pc = .ok (.putfield idx, 3)) (hc : cw_cl[ci]? = some (C, T, N)) (hin : ∀ w ∈ u_ws C T N, w ∈ cw_t) (hty : ∀ k, k < N → parseFieldDescriptor (T k).2.2.1 = some (ty0 k)) (hnm : ∀ a, a < N → ∀ b, b < N → a ≠ b → (T a).2.1 ≠ (T b).2.1) (hk : k < N) (hf : Cond.fieldLink (cw_y M).cls idx (T k).1 (T k).2.1 (T k).2.2.1 ∈ cw_t) (hfin : (T k).2.2.2 = false) (ht : parseFieldDescriptor (T k).2.2.1 = some ty) (hkt : cw_kt kd ty = true) : cw_SN cM sM M pc (s_put ci k kd (pc + 3)) := by
  intro p l e R s m args below meth c D cs ad A sh cells slots mc ms Qc free d C Q L S h X ⟨bc, bs, hw⟩ hsh hL H locs ls hP hS hl
  obtain ⟨⟨hx, hb, -, -, -, hown, hts, -⟩, hK, hap, -⟩ := X
  unfold s_put at hw
  split at hw
  · rename_i v p1 r
    split at hw
    · rename_i c1 fs hp
      split at hw
      · rename_i e1
        obtain ⟨e1, e2, e3⟩ := e1
        subst e1
        obtain ⟨n1, n2⟩ := cw_kt_ok (ad := ad) hkt e3
        have hD : va_D A (cw_wd cs ad h) := cw_ap.D (by rw [← cw_hk_len, hsh]; exact hap)
        refine va_put (D := D) (v := cw_tr ad v) (ty := ty) hx hb hts hin ty0 hty hnm hown hK.1 hP hD hS _ (cw_wd_get hp) hc k hk (hts _ hf) (fun _ h9 => h9) hfin ht n1 n2 (by rw [List.length_map]; exact e2) hd (fun H1 locs1 hP1 _ hS1 => ?_)
        rw [cw_put_eq] at hP1
        exact hw (by rw [cw_hk_set hp (by simp [cw_sz, cw_kz])]; exact hsh) hL H1 locs1 ls hP1 hS1 hl
      · exact hw.elim
    · exact hw.elim
  · exact hw.elim
theorem so_putF {ci k kd idx N : Nat} {C : String} {T : u_T} {ty0 : Nat → FieldType} {ty : FieldType} (hd : decode (cw_b M) pc = .ok (.putfield idx, 3)) (hc : cw_cl[ci]? = some (C, T, N)) (hin : ∀ w ∈ u_ws C T N, w ∈ cw_t) (hty : ∀ k, k < N → parseFieldDescriptor (T k).2.2.1 = some (ty0 k)) (hnm : ∀ a, a < N → ∀ b, b < N → a ≠ b → (T a).2.1 ≠ (T b).2.1) (hk : k < N) (hf : Cond.fieldLink (cw_y M).cls idx (T k).1 (T k).2.1 (T k).2.2.1 ∈ cw_t) (hfin : (T k).2.2.2 = true) (hi : (cw_y M).name = "<init>") (hdc : (T k).1 = (cw_y M).cls) (ht : parseFieldDescriptor (T k).2.2.1 = some ty) (hkt : cw_kt kd ty = true) : cw_SN cM sM M pc (s_put ci k kd (pc + 3)) := by
  intro p l e R s m args below meth c D cs ad A sh cells slots mc ms Qc free d C Q L S h X ⟨bc, bs, hw⟩ hsh hL H locs ls hP hS hl
  obtain ⟨⟨hx, hb, -, -, -, hown, hts, hnam⟩, hK, hap, -⟩ := X
  unfold s_put at hw
  split at hw
  · rename_i v p1 r
    split at hw
    · rename_i c1 fs hp
      split at hw
      · rename_i e1
        obtain ⟨e1, e2, e3⟩ := e1
        subst e1
        obtain ⟨n1, n2⟩ := cw_kt_ok (ad := ad) hkt e3
        have hD : va_D A (cw_wd cs ad h) := cw_ap.D (by rw [← cw_hk_len, hsh]; exact hap)
        refine va_putF (D := D) (v := cw_tr ad v) (ty := ty) hx hb hts hin ty0 hty hnm hown hK.1 hP hD hS _ (cw_wd_get hp) hc k hk (hts _ hf) (fun _ h9 => h9) hfin (hnam.trans hi) hdc ht n1 n2 (by rw [List.length_map]; exact e2) hd (fun H1 locs1 hP1 _ hS1 => ?_)
        rw [cw_put_eq] at hP1
        exact hw (by rw [cw_hk_set hp (by simp [cw_sz, cw_kz])]; exact hsh) hL H1 locs1 ls hP1 hS1 hl
      · exact hw.elim
    · exact hw.elim
  · exact hw.elim
theorem cw_in_vp {i : Int32} {n : Nat} (h : cw_in i n = true) : vp_in i n := by
  unfold cw_in at h
  simp only [Bool.and_eq_true, decide_eq_true_eq] at h
  rintro (q | q)
  · exact h.1 q
  · omega
theorem so_iald (hd : decode (cw_b M) pc = .ok (.iaload, 1)) : cw_SN cM sM M pc (s_iald (pc + 1)) := by
  intro p l e R s m args below meth c D cs ad A sh cells slots mc ms Qc free d C Q L S h X ⟨bc, bs, hw⟩ hsh hL H locs ls hP hS hl
  obtain ⟨⟨hx, hb, -⟩, hK, -⟩ := X
  unfold s_iald at hw
  split at hw
  · split at hw
    · rename_i n f hp
      split at hw
      · rename_i hi
        exact va_iald (D := D) hx hb hK.1 hP _ 0 (cw_wd_get hp) rfl (cw_in_vp hi) hd (hw hsh hL H locs ls hP hS hl)
      · exact hw.elim
    · exact hw.elim
  · exact hw.elim
theorem so_lald (hd : decode (cw_b M) pc = .ok (.laload, 1)) : cw_SN cM sM M pc (s_lald (pc + 1)) := by
  intro p l e R s m args below meth c D cs ad A sh cells slots mc ms Qc free d C Q L S h X ⟨bc, bs, hw⟩ hsh hL H locs ls hP hS hl
  obtain ⟨⟨hx, hb, -⟩, hK, -⟩ := X
  unfold s_lald at hw
  split at hw
  · split at hw
    · rename_i n f hp
      split at hw
      · rename_i hi
        exact va_lald (D := D) hx hb hK.1 hP _ 1 (cw_wd_get hp) rfl (cw_in_vp hi) hd (hw hsh hL H locs ls hP hS hl)
      · exact hw.elim
    · exact hw.elim
  · exact hw.elim
theorem so_iast (hd : decode (cw_b M) pc = .ok (.iastore, 1)) : cw_SN cM sM M pc (s_iast (pc + 1)) := by
  intro p l e R s m args below meth c D cs ad A sh cells slots mc ms Qc free d C Q L S h X ⟨bc, bs, hw⟩ hsh hL H locs ls hP hS hl
  obtain ⟨⟨hx, hb, -⟩, hK, hap, -⟩ := X
  unfold s_iast at hw
  split at hw
  · split at hw
    · rename_i n f hp
      split at hw
      · rename_i hi
        have hD : va_D A (cw_wd cs ad h) := cw_ap.D (by rw [← cw_hk_len, hsh]; exact hap)
        refine va_iast (D := D) hx hb hK.1 hP hD hS _ 0 (cw_wd_get hp) rfl (cw_in_vp hi) hd (fun H1 locs1 hP1 _ hS1 => ?_)
        exact hw ((cw_hk_set hp (by rfl)).trans hsh) hL H1 locs1 ls (cw_wd_set (cs := cs) (c := .inl (0, n, .inl (upd f _ _))) ▸ hP1) hS1 hl
      · exact hw.elim
    · exact hw.elim
  · exact hw.elim
theorem so_last (hd : decode (cw_b M) pc = .ok (.lastore, 1)) : cw_SN cM sM M pc (s_last (pc + 1)) := by
  intro p l e R s m args below meth c D cs ad A sh cells slots mc ms Qc free d C Q L S h X ⟨bc, bs, hw⟩ hsh hL H locs ls hP hS hl
  obtain ⟨⟨hx, hb, -⟩, hK, hap, -⟩ := X
  unfold s_last at hw
  split at hw
  · split at hw
    · rename_i n f hp
      split at hw
      · rename_i hi
        have hD : va_D A (cw_wd cs ad h) := cw_ap.D (by rw [← cw_hk_len, hsh]; exact hap)
        refine va_last (D := D) hx hb hK.1 hP hD hS _ 1 (cw_wd_get hp) rfl (cw_in_vp hi) hd (fun H1 locs1 hP1 _ hS1 => ?_)
        exact hw ((cw_hk_set hp (by rfl)).trans hsh) hL H1 locs1 ls (cw_wd_set (cs := cs) (c := .inl (1, n, .inr (.inl (vp_updL f _ _)))) ▸ hP1) hS1 hl
      · exact hw.elim
    · exact hw.elim
  · exact hw.elim
def cw_rn (t : Nat) : String := if t = 0 then RX6 else RX2
theorem cw_ty_r {cs : Nat → ClassId} {t : Nat} (h : t < 2) : (cw_ty cs)[t + 2]? = some (cs (t + 2), .object (cw_rn t)) := by
  rcases (show t = 0 ∨ t = 1 by omega) with rfl | rfl <;> rfl
theorem so_aald (hd : decode (cw_b M) pc = .ok (.aaload, 1)) : cw_SN cM sM M pc (s_aald (pc + 1)) := by
  intro p l e R s m args below meth c D cs ad A sh cells slots mc ms Qc free d C Q L S h X ⟨bc, bs, hw⟩ hsh hL H locs ls hP hS hl
  obtain ⟨⟨hx, hb, -⟩, hK, -⟩ := X
  unfold s_aald at hw
  split at hw
  · split at hw
    · rename_i t n f hp
      split at hw
      · rename_i hi
        split at hw
        · rename_i q hq
          refine va_aldq (D := D) hx hb hK.1 hP _ (t + 2) (cw_wd_get hp) (cw_ty_r hi.1) (cw_in_vp hi.2) hd ?_
          rw [hq]
          exact hw hsh hL H locs ls hP hS hl
        · exact hw.elim
      · exact hw.elim
    · exact hw.elim
  · exact hw.elim
theorem cw_up_map {f : Nat → Option Nat} {ad : Nat → Nat} {i v : Nat} : va_up (fun j => (f j).map ad) i (some (ad v)) = fun j => (va_up f i (some v) j).map ad := by
  funext j
  unfold va_up
  split <;> rfl
theorem so_aast (hd : decode (cw_b M) pc = .ok (.aastore, 1)) : cw_SN cM sM M pc (s_aast (pc + 1)) := by
  intro p l e R s m args below meth c D cs ad A sh cells slots mc ms Qc free d C Q L S h X ⟨bc, bs, hw⟩ hsh hL H locs ls hP hS hl
  obtain ⟨⟨hx, hb, -⟩, hK, hap, -⟩ := X
  unfold s_aast at hw
  split at hw
  · rename_i v i p1 r
    split at hw
    · rename_i t n f c1 vs hp hv
      split at hw
      · rename_i hi
        obtain ⟨h1, h2, h3⟩ := hi
        have hD : va_D A (cw_wd cs ad h) := cw_ap.D (by rw [← cw_hk_len, hsh]; exact hap)
        obtain ⟨rc, hrc, hrn⟩ : ∃ rc : vw_C, cw_cl[c1]? = some rc ∧ rc.1 = cw_rn t := by
          subst h2
          rcases (show t = 0 ∨ t = 1 by omega) with rfl | rfl <;> exact ⟨_, rfl, rfl⟩
        refine va_astq (D := D) hx hb hK.1 hP hD hS _ (t + 2) _ c1 (cw_wd_get hp) (by rw [hrn]; exact cw_ty_r h1) (cw_wd_get hv) hrc (cw_in_vp h3) hd (fun H1 locs1 hP1 _ hS1 => ?_)
        rw [cw_up_map] at hP1
        exact hw ((cw_hk_set hp (by rfl)).trans hsh) hL H1 locs1 ls (cw_wd_set (cs := cs) (c := .inl (t + 2, n, .inr (.inr (.inr (.inr (va_up f _ (some v))))))) ▸ hP1) hS1 hl
      · exact hw.elim
    · exact hw.elim
  · exact hw.elim
theorem cw_tc_in {cs : Nat → ClassId} {ad : Nat → Nat} {t n : Nat} {a} : ∃ a', cw_tc cs ad (.inl (t, n, a)) = .inl (cs t, n, a') := by
  rcases a with f | f | f | f | f <;> exact ⟨_, rfl⟩
theorem so_alen (hd : decode (cw_b M) pc = .ok (.arraylength, 1)) : cw_SN cM sM M pc (s_alen (pc + 1)) := by
  intro p l e R s m args below meth c D cs ad A sh cells slots mc ms Qc free d C Q L S h X ⟨bc, bs, hw⟩ hsh hL H locs ls hP hS hl
  obtain ⟨⟨hx, hb, -⟩, hK, -⟩ := X
  unfold s_alen at hw
  split at hw
  · rename_i p1 r
    split at hw
    · rename_i t n a hp
      split at hw
      · rename_i ht
        obtain ⟨a', ha⟩ := cw_tc_in (cs := cs) (ad := ad) (t := t) (n := n) (a := a)
        have hg := cw_wd_get (cs := cs) (ad := ad) hp
        rw [ha] at hg
        obtain ⟨ty, hty⟩ : ∃ ty, (cw_ty cs)[t]? = some (cs t, ty) := by
          rcases (show t = 0 ∨ t = 1 ∨ t = 2 ∨ t = 3 by omega) with rfl | rfl | rfl | rfl <;> exact ⟨_, rfl⟩
        exact va_alen (D := D) hx hb hK.1 hP _ t hg hty rfl hd (hw hsh hL H locs ls hP hS hl)
      · exact hw.elim
    · exact hw.elim
  · exact hw.elim
theorem so_iret (hd : decode (cw_b M) pc = .ok (.ireturn, 1)) (hr : cw_rt M = some .int) : cw_SN cM sM M pc s_iret := by
  intro p l e R s m args below meth c D cs ad A sh cells slots mc ms Qc free d C Q L S h X ⟨bc, bs, hw⟩ hsh hL H locs ls hP hS hl
  obtain ⟨⟨hx, hb, -, hrt, hlk, -⟩, -, -, -, hcs, -, hq, hfr⟩ := X
  unfold s_iret at hw
  split at hw
  · refine W.widen hcs.1 hcs.2 ?_
    exact W.iret hx hb (hrt.trans hr) (fun t ht hW => hq _ h t locs hw hsh (by rw [ht]; exact hP) hW (by rw [ht]; exact hS)) (fun q hq => hfr _ (hS.2.2 q hq)) hd hlk
  · exact hw.elim
theorem so_zret (hd : decode (cw_b M) pc = .ok (.ireturn, 1)) (hr : cw_rt M = some .boolean) : cw_SN cM sM M pc s_zret := by
  intro p l e R s m args below meth c D cs ad A sh cells slots mc ms Qc free d C Q L S h X ⟨bc, bs, hw⟩ hsh hL H locs ls hP hS hl
  obtain ⟨⟨hx, hb, -, hrt, hlk, -⟩, -, -, -, hcs, -, hq, hfr⟩ := X
  unfold s_zret at hw
  split at hw
  · split at hw
    · rename_i x hv
      refine W.widen hcs.1 hcs.2 ?_
      exact W.zret hx hb (hrt.trans hr) (by rcases hv with rfl | rfl <;> decide) (fun t ht hW => hq _ h t locs hw hsh (by rw [ht]; exact hP) hW (by rw [ht]; exact hS)) (fun q hq => hfr _ (hS.2.2 q hq)) hd hlk
    · exact hw.elim
  · exact hw.elim
theorem so_lret (hd : decode (cw_b M) pc = .ok (.lreturn, 1)) (hr : cw_rt M = some .long) : cw_SN cM sM M pc s_lret := by
  intro p l e R s m args below meth c D cs ad A sh cells slots mc ms Qc free d C Q L S h X ⟨bc, bs, hw⟩ hsh hL H locs ls hP hS hl
  obtain ⟨⟨hx, hb, -, hrt, hlk, -⟩, -, -, -, hcs, -, hq, hfr⟩ := X
  unfold s_lret at hw
  split at hw
  · refine W.widen hcs.1 hcs.2 ?_
    exact W.lret hx hb (hrt.trans hr) (fun t ht hW => hq _ h t locs hw hsh (by rw [ht]; exact hP) hW (by rw [ht]; exact hS)) (fun q hq => hfr _ (hS.2.2 q hq)) hd hlk
  · exact hw.elim
theorem so_vret (hd : decode (cw_b M) pc = .ok (.return_, 1)) (hr : cw_rt M = none) : cw_SN cM sM M pc s_vret := by
  intro p l e R s m args below meth c D cs ad A sh cells slots mc ms Qc free d C Q L S h X ⟨bc, bs, hw⟩ hsh hL H locs ls hP hS hl
  obtain ⟨⟨hx, hb, -, hrt, hlk, -⟩, -, -, -, hcs, -, hq, hfr⟩ := X
  unfold s_vret at hw
  split at hw
  · refine W.widen hcs.1 hcs.2 ?_
    exact W.vret hx hb (hrt.trans hr) (fun t ht hW => hq _ h t locs hw hsh (by rw [ht]; exact hP) hW (by rw [ht]; exact hS)) (fun q hq => hfr _ (hS.2.2 q hq)) hd hlk
  · exact hw.elim
theorem so_aret {n : String} (hd : decode (cw_b M) pc = .ok (.areturn, 1)) (hr : cw_rt M = some (.object n)) : cw_SN cM sM M pc s_aret := by
  intro p l e R s m args below meth c D cs ad A sh cells slots mc ms Qc free d C Q L S h X ⟨bc, bs, hw⟩ hsh hL H locs ls hP hS hl
  obtain ⟨⟨hx, hb, -, hrt, hlk, -⟩, -, -, -, hcs, -, hq, hfr⟩ := X
  unfold s_aret at hw
  split at hw
  · refine W.widen hcs.1 hcs.2 ?_
    exact W.aret hx hb (hrt.trans hr) (Or.inl ⟨_, rfl⟩) (Or.inr ⟨_, rfl⟩) (fun t ht hW => hq _ h t locs hw hsh (by rw [ht]; exact hP) hW (by rw [ht]; exact hS)) (fun q hq => hfr _ (hS.2.2 q hq)) hd hlk
  · exact hw.elim
end
