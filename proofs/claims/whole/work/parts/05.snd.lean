/-! AN INSTRUCTION OF THE ABSTRACT MACHINE IS THE REAL ONE -/
def cw_G (p : Program) (l : Launch) (e : Env) (R : Room) (s : State) (m : MethodId) (args : Array Value) (below : List Frame) (meth : Method) (c : Code) (D : va_G) (cs : Nat → ClassId) (ad : Nat → Nat) (A : Nat → Prop) (sh : List (Nat × Nat)) (cells slots : Nat) (Qf : State → Prop) (pc : Nat) (L : cw_L) (S : List Value) (h : cw_H) : Prop :=
  cw_hk h = sh → L.length = c.maxLocals → ∀ (H : Heap) (locs : List Loc) (ls : Array Slot), va_P D cw_cl (cw_wd cs ad h) H → va_S A s.heap H locs → lv_has ls c.maxLocals (cw_pr ad L) → W p l e R s m args below meth c H locs cells slots Qf (F0 m pc ls (S.map (cw_tr ad)))
/-- what is known inside the method M: the machine, the tables, the world's kinds, the room, the contracts of what is called, the end -/
def cw_Cx (p : Program) (l : Launch) (R : Room) (s : State) (m : MethodId) (args : Array Value) (meth : Method) (c : Code) (M : Nat) (D : va_G) (cs : Nat → ClassId) (ad : Nat → Nat) (A : Nat → Prop) (sh : List (Nat × Nat)) (cells slots mc ms : Nat) (Qc : Array Value → State → Outcome → State → Prop) (free : Addr → Prop) (d : Nat) (C : Nat → List Value → cw_H → (Option Value → cw_H → Prop) → Prop) (Q : Option Value → cw_H → Prop) : Prop :=
  (p.tables.exec = Jvm.exec ∧ c.code = cw_b M ∧ c.maxLocals = cw_mx M ∧ meth.sig.returnType = cw_rt M ∧ meth.locks = false ∧ s.vm.findClass (cw_y M).cls = some m.cls ∧ (∀ w ∈ cw_t, w.before args s = true) ∧ meth.name = (cw_y M).name) ∧
  cw_K D cs s ∧ cw_ap A ad sh.length ∧ (d ≤ R.frames ∧ 100 * d ≤ R.locals ∧ cells ≤ R.cells ∧ slots ≤ R.slots) ∧ (cells ≤ mc ∧ slots ≤ ms) ∧
  (∀ (M' : Nat) (as : List Value) (h : cw_H) (Q' : Option Value → cw_H → Prop), cw_isN M' = true → C M' as h Q' → cw_hk h = sh → ∃ d' : Nat, d = d' + 1 ∧ cw_MN l D cs ad d' M' as h Q') ∧
  (∀ (r : Option Value) (h' : cw_H) (t : State) (locs : List Loc), Q r h' → cw_hk h' = sh → va_P D cw_cl (cw_wd cs ad h') t.heap → s.WarmedH t.vm → va_S A s.heap t.heap locs → Qc args s (.returned (r.map (cw_tr ad))) t) ∧ (∀ q, A q → free q)
/-- the instruction at pc in the method M is the abstract sem -/
def cw_SN (cM sM : Nat → Nat) (M pc : Nat) (sem : cw_S) : Prop := ∀ (p : Program) (l : Launch) (e : Env) (R : Room) (s : State) (m : MethodId) (args : Array Value) (below : List Frame) (meth : Method) (c : Code) (D : va_G) (cs : Nat → ClassId) (ad : Nat → Nat) (A : Nat → Prop) (sh : List (Nat × Nat)) (cells slots mc ms : Nat) (Qc : Array Value → State → Outcome → State → Prop) (free : Addr → Prop) (d : Nat) (C : Nat → List Value → cw_H → (Option Value → cw_H → Prop) → Prop) (Q : Option Value → cw_H → Prop) (L : cw_L) (S : List Value) (h : cw_H),
  cw_Cx p l R s m args meth c M D cs ad A sh cells slots mc ms Qc free d C Q →
  (∃ bc bs : Nat, cw_wp cM sM C (cw_G p l e R s m args below meth c D cs ad A sh cells slots (MQ below Qc args s mc ms free)) Q bc bs (sem d L S h)) → cw_G p l e R s m args below meth c D cs ad A sh cells slots (MQ below Qc args s mc ms free) pc L S h
section
variable {cM sM : Nat → Nat} {M pc : Nat}
theorem so_iload_n {k : Fin 4} {i : Nat} (hd : decode (cw_b M) pc = .ok (.iload_n k, 1)) (hi : (k : Nat) = i) : cw_SN cM sM M pc (s_iload i (pc + 1)) := by
  intro p l e R s m args below meth c D cs ad A sh cells slots mc ms Qc free d C Q L S h X ⟨bc, bs, hw⟩ hsh hL H locs ls hP hS hl
  obtain ⟨⟨hx, hb, -⟩, -⟩ := X
  unfold s_iload at hw
  split at hw
  · rename_i x hv
    exact lv_iload_n hx hb hd hi (cw_pr_get hl hv) (hw hsh hL H locs ls hP hS hl)
  · exact hw.elim
theorem so_iload {i : Nat} (hd : decode (cw_b M) pc = .ok (.iload i, 2)) : cw_SN cM sM M pc (s_iload i (pc + 2)) := by
  intro p l e R s m args below meth c D cs ad A sh cells slots mc ms Qc free d C Q L S h X ⟨bc, bs, hw⟩ hsh hL H locs ls hP hS hl
  obtain ⟨⟨hx, hb, -⟩, -⟩ := X
  unfold s_iload at hw
  split at hw
  · rename_i x hv
    exact lv_iload hx hb hd (cw_pr_get hl hv) (hw hsh hL H locs ls hP hS hl)
  · exact hw.elim
theorem so_lload_n {k : Fin 4} {i : Nat} (hd : decode (cw_b M) pc = .ok (.lload_n k, 1)) (hi : (k : Nat) = i) : cw_SN cM sM M pc (s_lload i (pc + 1)) := by
  intro p l e R s m args below meth c D cs ad A sh cells slots mc ms Qc free d C Q L S h X ⟨bc, bs, hw⟩ hsh hL H locs ls hP hS hl
  obtain ⟨⟨hx, hb, -⟩, -⟩ := X
  unfold s_lload at hw
  split at hw
  · rename_i x hv
    exact lv_lload_n hx hb hd hi (cw_pr_get hl hv) (hw hsh hL H locs ls hP hS hl)
  · exact hw.elim
theorem so_lload {i : Nat} (hd : decode (cw_b M) pc = .ok (.lload i, 2)) : cw_SN cM sM M pc (s_lload i (pc + 2)) := by
  intro p l e R s m args below meth c D cs ad A sh cells slots mc ms Qc free d C Q L S h X ⟨bc, bs, hw⟩ hsh hL H locs ls hP hS hl
  obtain ⟨⟨hx, hb, -⟩, -⟩ := X
  unfold s_lload at hw
  split at hw
  · rename_i x hv
    exact lv_lload hx hb hd (cw_pr_get hl hv) (hw hsh hL H locs ls hP hS hl)
  · exact hw.elim
theorem so_aload_n {k : Fin 4} {i : Nat} (hd : decode (cw_b M) pc = .ok (.aload_n k, 1)) (hi : (k : Nat) = i) : cw_SN cM sM M pc (s_aload i (pc + 1)) := by
  intro p l e R s m args below meth c D cs ad A sh cells slots mc ms Qc free d C Q L S h X ⟨bc, bs, hw⟩ hsh hL H locs ls hP hS hl
  obtain ⟨⟨hx, hb, -⟩, -⟩ := X
  unfold s_aload at hw
  split at hw
  · rename_i x hv
    exact lv_aload_n hx hb hd hi (cw_pr_get hl hv) (hw hsh hL H locs ls hP hS hl)
  · exact hw.elim
theorem so_aload {i : Nat} (hd : decode (cw_b M) pc = .ok (.aload i, 2)) : cw_SN cM sM M pc (s_aload i (pc + 2)) := by
  intro p l e R s m args below meth c D cs ad A sh cells slots mc ms Qc free d C Q L S h X ⟨bc, bs, hw⟩ hsh hL H locs ls hP hS hl
  obtain ⟨⟨hx, hb, -⟩, -⟩ := X
  unfold s_aload at hw
  split at hw
  · rename_i x hv
    exact lv_aload hx hb hd (cw_pr_get hl hv) (hw hsh hL H locs ls hP hS hl)
  · exact hw.elim
theorem so_istore_n {k : Fin 4} {i : Nat} (hd : decode (cw_b M) pc = .ok (.istore_n k, 1)) (hi : (k : Nat) = i) : cw_SN cM sM M pc (s_istore i (pc + 1)) := by
  intro p l e R s m args below meth c D cs ad A sh cells slots mc ms Qc free d C Q L S h X ⟨bc, bs, hw⟩ hsh hL H locs ls hP hS hl
  obtain ⟨⟨hx, hb, -⟩, -⟩ := X
  unfold s_istore at hw
  split at hw
  · rename_i x r
    split at hw
    · rename_i hlt
      exact lv_istore_n hx hb hd hi hl (by omega) rfl (fun ls' hl' => hw hsh (by rw [cw_sto_len]; exact hL) H locs ls' hP hS (cw_sto_has hl'))
    · exact hw.elim
  · exact hw.elim
theorem so_istore {i : Nat} (hd : decode (cw_b M) pc = .ok (.istore i, 2)) : cw_SN cM sM M pc (s_istore i (pc + 2)) := by
  intro p l e R s m args below meth c D cs ad A sh cells slots mc ms Qc free d C Q L S h X ⟨bc, bs, hw⟩ hsh hL H locs ls hP hS hl
  obtain ⟨⟨hx, hb, -⟩, -⟩ := X
  unfold s_istore at hw
  split at hw
  · rename_i x r
    split at hw
    · rename_i hlt
      exact lv_istore hx hb hd hl (by omega) rfl (fun ls' hl' => hw hsh (by rw [cw_sto_len]; exact hL) H locs ls' hP hS (cw_sto_has hl'))
    · exact hw.elim
  · exact hw.elim
theorem so_astore_n {k : Fin 4} {i : Nat} (hd : decode (cw_b M) pc = .ok (.astore_n k, 1)) (hi : (k : Nat) = i) : cw_SN cM sM M pc (s_astore i (pc + 1)) := by
  intro p l e R s m args below meth c D cs ad A sh cells slots mc ms Qc free d C Q L S h X ⟨bc, bs, hw⟩ hsh hL H locs ls hP hS hl
  obtain ⟨⟨hx, hb, -⟩, -⟩ := X
  unfold s_astore at hw
  split at hw
  · rename_i x r
    split at hw
    · rename_i hlt
      exact lv_astore_n hx hb hd hi hl (by omega) rfl (fun ls' hl' => hw hsh (by rw [cw_sto_len]; exact hL) H locs ls' hP hS (cw_sto_has hl'))
    · exact hw.elim
  · exact hw.elim
theorem so_astore {i : Nat} (hd : decode (cw_b M) pc = .ok (.astore i, 2)) : cw_SN cM sM M pc (s_astore i (pc + 2)) := by
  intro p l e R s m args below meth c D cs ad A sh cells slots mc ms Qc free d C Q L S h X ⟨bc, bs, hw⟩ hsh hL H locs ls hP hS hl
  obtain ⟨⟨hx, hb, -⟩, -⟩ := X
  unfold s_astore at hw
  split at hw
  · rename_i x r
    split at hw
    · rename_i hlt
      exact lv_astore hx hb hd hl (by omega) rfl (fun ls' hl' => hw hsh (by rw [cw_sto_len]; exact hL) H locs ls' hP hS (cw_sto_has hl'))
    · exact hw.elim
  · exact hw.elim
theorem so_lstore_n {k : Fin 4} {i : Nat} (hd : decode (cw_b M) pc = .ok (.lstore_n k, 1)) (hi : (k : Nat) = i) : cw_SN cM sM M pc (s_lstore i (pc + 1)) := by
  intro p l e R s m args below meth c D cs ad A sh cells slots mc ms Qc free d C Q L S h X ⟨bc, bs, hw⟩ hsh hL H locs ls hP hS hl
  obtain ⟨⟨hx, hb, -⟩, -⟩ := X
  unfold s_lstore at hw
  split at hw
  · rename_i x r
    split at hw
    · rename_i hlt
      exact lv_lstore_n hx hb hd hi hl (by omega) rfl (fun ls' hl' => hw hsh (by rw [cw_stl_len]; exact hL) H locs ls' hP hS (cw_stl_has hl'))
    · exact hw.elim
  · exact hw.elim
theorem so_lstore {i : Nat} (hd : decode (cw_b M) pc = .ok (.lstore i, 2)) : cw_SN cM sM M pc (s_lstore i (pc + 2)) := by
  intro p l e R s m args below meth c D cs ad A sh cells slots mc ms Qc free d C Q L S h X ⟨bc, bs, hw⟩ hsh hL H locs ls hP hS hl
  obtain ⟨⟨hx, hb, -⟩, -⟩ := X
  unfold s_lstore at hw
  split at hw
  · rename_i x r
    split at hw
    · rename_i hlt
      exact lv_lstore hx hb hd hl (by omega) rfl (fun ls' hl' => hw hsh (by rw [cw_stl_len]; exact hL) H locs ls' hP hS (cw_stl_has hl'))
    · exact hw.elim
  · exact hw.elim
theorem so_iinc {i : Nat} {n : Int} {v : Int32} (hd : decode (cw_b M) pc = .ok (.iinc i n, 3)) (hv : Int32.ofInt n = v) : cw_SN cM sM M pc (s_iinc i v (pc + 3)) := by
  intro p l e R s m args below meth c D cs ad A sh cells slots mc ms Qc free d C Q L S h X ⟨bc, bs, hw⟩ hsh hL H locs ls hP hS hl
  obtain ⟨⟨hx, hb, -⟩, -⟩ := X
  subst hv
  unfold s_iinc at hw
  split at hw
  · rename_i x hx2
    have hm : (i, Value.int x) ∈ cw_pr ad L := cw_pr_mem.mpr ⟨.int x, hx2, rfl⟩
    obtain ⟨k, hk⟩ := List.getElem?_of_mem hm
    have hlt : i < L.length := (List.getElem?_eq_some_iff.mp hx2).1
    exact lv_iinc hx hb hd hl hk rfl (by omega) rfl (fun ls' hl' => hw hsh (by rw [cw_sto_len]; exact hL) H locs ls' hP hS (cw_sto_has hl'))
  · exact hw.elim
theorem so_iconst {n : Int} {v : Int32} (hd : decode (cw_b M) pc = .ok (.iconst n, 1)) (hv : Int32.ofInt n = v) : cw_SN cM sM M pc (s_iconst v (pc + 1)) := by
  intro p l e R s m args below meth c D cs ad A sh cells slots mc ms Qc free d C Q L S h X ⟨bc, bs, hw⟩ hsh hL H locs ls hP hS hl
  obtain ⟨⟨hx, hb, -⟩, -⟩ := X
  exact lv_iconst hx hb hd hv (hw hsh hL H locs ls hP hS hl)
theorem so_bipush {n : Int} {v : Int32} (hd : decode (cw_b M) pc = .ok (.bipush n, 2)) (hv : (Int8.ofInt n).toInt32 = v) : cw_SN cM sM M pc (s_iconst v (pc + 2)) := by
  intro p l e R s m args below meth c D cs ad A sh cells slots mc ms Qc free d C Q L S h X ⟨bc, bs, hw⟩ hsh hL H locs ls hP hS hl
  obtain ⟨⟨hx, hb, -⟩, -⟩ := X
  exact lv_bipush hx hb hd hv (hw hsh hL H locs ls hP hS hl)
theorem so_sipush {n : Int} {v : Int32} (hd : decode (cw_b M) pc = .ok (.sipush n, 3)) (hv : (Int16.ofInt n).toInt32 = v) : cw_SN cM sM M pc (s_iconst v (pc + 3)) := by
  intro p l e R s m args below meth c D cs ad A sh cells slots mc ms Qc free d C Q L S h X ⟨bc, bs, hw⟩ hsh hL H locs ls hP hS hl
  obtain ⟨⟨hx, hb, -⟩, -⟩ := X
  exact lv_sipush hx hb hd hv (hw hsh hL H locs ls hP hS hl)
theorem so_ldc {i : Nat} {v : Int32} (hd : decode (cw_b M) pc = .ok (.ldc i, 2)) (hc : Cond.constant (cw_y M).cls i v ∈ cw_t) : cw_SN cM sM M pc (s_iconst v (pc + 2)) := by
  intro p l e R s m args below meth c D cs ad A sh cells slots mc ms Qc free d C Q L S h X ⟨bc, bs, hw⟩ hsh hL H locs ls hP hS hl
  obtain ⟨⟨hx, hb, -, -, -, hown, hts, -⟩, -⟩ := X
  exact lv_ldc hx hb hown (hts _ hc) hd (hw hsh hL H locs ls hP hS hl)
theorem so_ldc2 {i : Nat} {v : Int64} (hd : decode (cw_b M) pc = .ok (.ldc2_w i, 3)) (hc : Cond.constantLong (cw_y M).cls i v ∈ cw_t) : cw_SN cM sM M pc (s_lconst v (pc + 3)) := by
  intro p l e R s m args below meth c D cs ad A sh cells slots mc ms Qc free d C Q L S h X ⟨bc, bs, hw⟩ hsh hL H locs ls hP hS hl
  obtain ⟨⟨hx, hb, -, -, -, hown, hts, -⟩, -⟩ := X
  exact lv_ldc2 hx hb hown (hts _ hc) hd (hw hsh hL H locs ls hP hS hl)
theorem so_lconst {n : Fin 2} {v : Int64} (hd : decode (cw_b M) pc = .ok (.lconst n, 1)) (hv : Int64.ofNat (n : Nat) = v) : cw_SN cM sM M pc (s_lconst v (pc + 1)) := by
  intro p l e R s m args below meth c D cs ad A sh cells slots mc ms Qc free d C Q L S h X ⟨bc, bs, hw⟩ hsh hL H locs ls hP hS hl
  obtain ⟨⟨hx, hb, -⟩, -⟩ := X
  exact lv_lconst hx hb hd hv (hw hsh hL H locs ls hP hS hl)
end
