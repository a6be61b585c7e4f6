/-! THE ABSTRACT MACHINE'S WORLD IN THE REAL ONE -/
/-- a cell's kind: a row, or an object of a class -/
def cw_kz (c : cw_C) : Nat := match c with
  | .inl _ => 0
  | .inr o => o.1 + 1
def cw_hk (h : cw_H) : List (Nat × Nat) := h.map fun c => (cw_sz c, cw_kz c)
theorem cw_hk_sl {g h : cw_H} (e : cw_hk g = cw_hk h) : cw_sl g = cw_sl h := by
  have e1 : ∀ k : cw_H, cw_sl k = ((cw_hk k).map Prod.fst).sum := fun k => by simp [cw_sl, cw_hd, cw_hk, Function.comp_def]
  rw [e1, e1, e]
theorem cw_hk_set {h : cw_H} {p : Nat} {c c' : cw_C} (hp : h[p]? = some c) (hc : (cw_sz c', cw_kz c') = (cw_sz c, cw_kz c)) : cw_hk (h.set p c') = cw_hk h := by
  unfold cw_hk
  rw [List.map_set, hc]
  apply List.ext_getElem?
  intro i
  rw [List.getElem?_set]
  split
  · rename_i e
    subst e
    rw [List.getElem?_map, hp]
    have : p < h.length := (List.getElem?_eq_some_iff.mp hp).1
    simp [this]
  · rfl
theorem cw_hk_len {h : cw_H} : (cw_hk h).length = h.length := by simp [cw_hk]
def cw_tr (ad : Nat → Nat) (v : Value) : Value := match v with
  | .ref k => .ref (ad k)
  | v => v
theorem cw_tr_cat (ad : Nat → Nat) (v : Value) : (cw_tr ad v).category = v.category := by cases v <;> rfl
def cw_tc (cs : Nat → ClassId) (ad : Nat → Nat) (c : cw_C) : va_E := match c with
  | .inl (t, n, .inr (.inr (.inr (.inr f)))) => .inl (cs t, n, .inr (.inr (.inr (.inr (fun j => (f j).map ad)))))
  | .inl (t, a) => .inl (cs t, a)
  | .inr (ci, fs) => .inr (ci, fs.map (cw_tr ad))
def cw_wd (cs : Nat → ClassId) (ad : Nat → Nat) (h : cw_H) : va_W := h.mapIdx fun k c => (ad k, cw_tc cs ad c)
theorem cw_wd_get {cs : Nat → ClassId} {ad : Nat → Nat} {h : cw_H} {p : Nat} {c : cw_C} (hp : h[p]? = some c) : (cw_wd cs ad h)[p]? = some (ad p, cw_tc cs ad c) := by
  unfold cw_wd
  rw [List.getElem?_mapIdx, hp]
  rfl
theorem cw_wd_set {cs : Nat → ClassId} {ad : Nat → Nat} {h : cw_H} {p : Nat} {c : cw_C} : (cw_wd cs ad h).set p (ad p, cw_tc cs ad c) = cw_wd cs ad (h.set p c) := by
  unfold cw_wd
  apply List.ext_getElem?
  intro i
  rw [List.getElem?_mapIdx, List.getElem?_set, List.getElem?_set, List.getElem?_mapIdx, List.length_mapIdx]
  split
  · rename_i e
    subst e
    split <;> rfl
  · rfl
theorem cw_wd_app {cs : Nat → ClassId} {ad ad' : Nat → Nat} {h : cw_H} {c : cw_C} (e : cw_wd cs ad' h = cw_wd cs ad h) : cw_wd cs ad' (h ++ [c]) = cw_wd cs ad h ++ [(ad' h.length, cw_tc cs ad' c)] := by
  rw [← e]
  unfold cw_wd
  rw [List.mapIdx_append]
  simp
/-- the cells' addresses are apart, and in A -/
def cw_ap (A : Nat → Prop) (ad : Nat → Nat) (n : Nat) : Prop := (∀ i j : Nat, i < n → j < n → ad i = ad j → i = j) ∧ ∀ i : Nat, i < n → A (ad i)
theorem cw_ap.D {A : Nat → Prop} {ad : Nat → Nat} {cs : Nat → ClassId} {h : cw_H} (a : cw_ap A ad h.length) : va_D A (cw_wd cs ad h) := by
  have g : ∀ (i : Nat) (p : Nat × va_E), (cw_wd cs ad h)[i]? = some p → i < h.length ∧ p.1 = ad i := by
    intro i p hi
    unfold cw_wd at hi
    rw [List.getElem?_mapIdx] at hi
    cases hc : h[i]? with
    | none => rw [hc] at hi; cases hi
    | some c =>
      rw [hc] at hi
      cases hi
      exact ⟨(List.getElem?_eq_some_iff.mp hc).1, rfl⟩
  refine ⟨fun i j p q hi hj e => ?_, fun k q hk => ?_⟩
  · obtain ⟨i1, i2⟩ := g i p hi
    obtain ⟨j1, j2⟩ := g j q hj
    exact a.1 i j i1 j1 (by rw [← i2, ← j2, e])
  · obtain ⟨i1, i2⟩ := g k q hk
    rw [i2]
    exact a.2 k i1
/-- the locals' known values -/
def cw_pr (ad : Nat → Nat) (L : cw_L) : List (Nat × Value) := (List.range L.length).filterMap fun i => match L[i]? with
  | some (some v) => some (i, cw_tr ad v)
  | _ => none
theorem cw_pr_mem {ad : Nat → Nat} {L : cw_L} {q : Nat × Value} : q ∈ cw_pr ad L ↔ ∃ v, L[q.1]? = some (some v) ∧ q.2 = cw_tr ad v := by
  unfold cw_pr
  rw [List.mem_filterMap]
  constructor
  · rintro ⟨i, hi, h⟩
    split at h
    · rename_i v e
      cases h
      exact ⟨v, e, rfl⟩
    · cases h
  · rintro ⟨v, h, e⟩
    refine ⟨q.1, List.mem_range.mpr (List.getElem?_eq_some_iff.mp h).1, ?_⟩
    rw [h]
    show some (q.1, cw_tr ad v) = some q
    rw [← e]
theorem cw_pr_get {ad : Nat → Nat} {L : cw_L} {ls : Array Slot} {nL i : Nat} {v : Value} (h : lv_has ls nL (cw_pr ad L)) (hv : L[i]? = some (some v)) : ls[i]? = some (.val (cw_tr ad v)) := h.2.2 (i, cw_tr ad v) (cw_pr_mem.mpr ⟨v, hv, rfl⟩)
theorem lv_has.le {ls : Array Slot} {nL : Nat} {l l' : List (Nat × Value)} (h : lv_has ls nL l) (hl : ∀ q ∈ l', q ∈ l) : lv_has ls nL l' := ⟨h.1, h.2.1, fun q hq => h.2.2 q (hl q hq)⟩
theorem cw_kill_len {i : Nat} {L : cw_L} : (cw_kill i L).length = L.length := by
  unfold cw_kill
  split
  · rfl
  · split <;> simp
theorem cw_kill_get {i j : Nat} {L : cw_L} {v : Value} (h : (cw_kill i L)[j]? = some (some v)) : L[j]? = some (some v) ∧ ¬ (j + 1 = i ∧ v.category = 2) := by
  unfold cw_kill at h
  split at h
  · exact ⟨h, by omega⟩
  · rename_i k
    split at h
    · rename_i x e
      rw [List.getElem?_set] at h
      split at h
      · split at h <;> cases h
      · rename_i n
        exact ⟨h, fun q => n (by omega)⟩
    · rename_i x e
      rw [List.getElem?_set] at h
      split at h
      · split at h <;> cases h
      · rename_i n
        exact ⟨h, fun q => n (by omega)⟩
    · rename_i n1 n2
      refine ⟨h, fun q => ?_⟩
      obtain ⟨q1, q2⟩ := q
      have hj : j = k := by omega
      subst hj
      cases v with
      | long x => exact n1 x h
      | double x => exact n2 x h
      | _ => cases q2
theorem cw_sto_len {i : Nat} {v : Value} {L : cw_L} : (cw_sto i v L).length = L.length := by simp [cw_sto, cw_kill_len]
theorem cw_stl_len {i : Nat} {v : Value} {L : cw_L} : (cw_stl i v L).length = L.length := by simp [cw_stl, cw_kill_len]
theorem cw_sto_has {ad : Nat → Nat} {L : cw_L} {ls : Array Slot} {nL i : Nat} {v : Value} (h : lv_has ls nL ((i, cw_tr ad v) :: (cw_pr ad L).filter (fun q => !(q.1 == i) && !(q.1 + 1 == i && q.2.category == 2)))) : lv_has ls nL (cw_pr ad (cw_sto i v L)) := by
  refine h.le fun q hq => ?_
  obtain ⟨w, hw, e⟩ := cw_pr_mem.mp hq
  unfold cw_sto at hw
  rw [List.getElem?_set] at hw
  split at hw
  · rename_i e2
    split at hw
    · cases hw
      obtain ⟨q1, q2⟩ := q
      cases e
      cases e2
      exact List.mem_cons_self
    · cases hw
  · rename_i n
    obtain ⟨g1, g2⟩ := cw_kill_get hw
    refine List.mem_cons_of_mem _ (List.mem_filter.mpr ⟨cw_pr_mem.mpr ⟨w, g1, e⟩, ?_⟩)
    rw [e, cw_tr_cat]
    have n2 : ¬ q.1 = i := fun z => n z.symm
    simp only [Bool.and_eq_true, Bool.not_eq_true', beq_eq_false_iff_ne, Bool.and_eq_false_iff]
    refine ⟨n2, ?_⟩
    rcases Nat.decEq (q.1 + 1) i with z | z
    · exact Or.inl z
    · exact Or.inr fun y => g2 ⟨z, y⟩
theorem cw_stl_has {ad : Nat → Nat} {L : cw_L} {ls : Array Slot} {nL i : Nat} {v : Value} (h : lv_has ls nL ((i, cw_tr ad v) :: (cw_pr ad L).filter (fun q => !(q.1 == i) && (!(q.1 == i + 1) && !(q.1 + 1 == i && q.2.category == 2))))) : lv_has ls nL (cw_pr ad (cw_stl i v L)) := by
  refine h.le fun q hq => ?_
  obtain ⟨w, hw, e⟩ := cw_pr_mem.mp hq
  unfold cw_stl at hw
  rw [List.getElem?_set] at hw
  split at hw
  · rename_i e2
    split at hw
    · cases hw
      obtain ⟨q1, q2⟩ := q
      cases e
      cases e2
      exact List.mem_cons_self
    · cases hw
  · rename_i n
    rw [List.getElem?_set] at hw
    split at hw
    · split at hw <;> cases hw
    · rename_i n3
      obtain ⟨g1, g2⟩ := cw_kill_get hw
      refine List.mem_cons_of_mem _ (List.mem_filter.mpr ⟨cw_pr_mem.mpr ⟨w, g1, e⟩, ?_⟩)
      rw [e, cw_tr_cat]
      have n2 : ¬ q.1 = i := fun z => n z.symm
      have n4 : ¬ q.1 = i + 1 := fun z => n3 z.symm
      simp only [Bool.and_eq_true, Bool.not_eq_true', beq_eq_false_iff_ne, Bool.and_eq_false_iff]
      refine ⟨n2, n4, ?_⟩
      rcases Nat.decEq (q.1 + 1) i with z | z
      · exact Or.inl z
      · exact Or.inr fun y => g2 ⟨z, y⟩
/-- the words of private members of nest mates; the rows of references -/
def cw_nest : List Cond := [.methodLinkNest RX7 17 ⟨RX2, "<init>", "()V"⟩ RX8, .methodLinkNest RX7 24 ⟨RX1, "<init>", "()V"⟩ RX8, .methodLinkNest RX8 25 ⟨RX3, "<init>", "()V"⟩ RX8, .methodLinkNest RX8 32 ⟨RX4, "<init>", "()V"⟩ RX8, .methodLinkNest RX8 46 ⟨RX5, "<init>", "()V"⟩ RX8, .methodLinkNest RX3 101 ⟨RX8, "distance", "(IIII)I"⟩ RX8]
def cw_N (U : State) : Prop := (∀ w ∈ cw_nest, va_Nw w U) ∧ va_AO RX6 U ∧ va_AO RX2 U
theorem cw_N.warm {s U : State} (hW : s.WarmedH U.vm) (h : cw_N s) : cw_N U := by
  refine ⟨fun w hw => ?_, h.2.1.moved hW.alike, h.2.2.moved hW.alike⟩
  have h1 := h.1 w hw
  simp only [cw_nest, List.mem_cons, List.not_mem_nil, or_false] at hw
  rcases hw with rfl | rfl | rfl | rfl | rfl | rfl <;> exact va_Nw.warmM hW h1
theorem cw_N.same {s U : State} (e : s.vm = U.vm) (h : cw_N s) : cw_N U := by
  refine ⟨fun w hw => ?_, h.2.1.moved (e ▸ Vm.Alike.refl s.vm), h.2.2.moved (e ▸ Vm.Alike.refl s.vm)⟩
  have h1 := h.1 w hw
  simp only [cw_nest, List.mem_cons, List.not_mem_nil, or_false] at hw
  rcases hw with rfl | rfl | rfl | rfl | rfl | rfl <;> exact va_Nw.same rfl e h1
def cw_ty (cs : Nat → ClassId) : List (ClassId × FieldType) := [(cs 0, .int), (cs 1, .long), (cs 2, .object RX6), (cs 3, .object RX2)]
def cw_K (D : va_G) (cs : Nat → ClassId) (U : State) : Prop := va_K D cw_cl (cw_ty cs) U ∧ cw_N U
theorem cw_K.warm {D : va_G} {cs : Nat → ClassId} {s U : State} (hW : s.WarmedH U.vm) (h : cw_K D cs s) : cw_K D cs U := ⟨va_K.moved hW.alike h.1, h.2.warm hW⟩
theorem cw_K.same {D : va_G} {cs : Nat → ClassId} {s U : State} (e : s.vm = U.vm) (h : cw_K D cs s) : cw_K D cs U := ⟨va_K.moved (e ▸ Vm.Alike.refl s.vm) h.1, h.2.same e⟩
/-- which addresses are a world's -/
def cw_Ad (ad : Nat → Nat) (n : Nat) : Nat → Prop := fun q => ∃ i : Nat, i < n ∧ q = ad i
def cw_rm (d mc ms : Nat) : Room := { frames := d, cells := mc, slots := ms, locals := 100 * d }
def cw_ws (M : Nat) : List Cond := Cond.code (cw_y M) (cw_b M) (cw_mx M) (cw_rt M) :: cw_t
def cw_PN (D : va_G) (cs : Nat → ClassId) (ad : Nat → Nat) (as : List Value) (h : cw_H) : Array Value → State → Prop := va_Pc (as.map (cw_tr ad)) (fun U => cw_K D cs U ∧ va_P D cw_cl (cw_wd cs ad h) U.heap)
def cw_QN (D : va_G) (cs : Nat → ClassId) (ad : Nat → Nat) (sh : List (Nat × Nat)) (Q : Option Value → cw_H → Prop) : Array Value → State → Outcome → State → Prop := fun _ st oc t =>
  (∃ (r : Option Value) (h' : cw_H), oc = .returned (r.map (cw_tr ad)) ∧ Q r h' ∧ cw_hk h' = sh ∧ va_P D cw_cl (cw_wd cs ad h') t.heap) ∧ va_F (cw_Ad ad sh.length) st t
/-- the contract of a method that makes no cells -/
def cw_MN (l : Launch) (D : va_G) (cs : Nat → ClassId) (ad : Nat → Nat) (d M : Nat) (as : List Value) (h : cw_H) (Q : Option Value → cw_H → Prop) : Prop :=
  Met l (cw_y M) (cw_ws M) (cw_rm d 0 0) (cw_PN D cs ad as h) (cw_QN D cs ad (cw_hk h) Q) 0 0 (cw_Ad ad (cw_hk h).length)
def cw_isN (M : Nat) : Bool := decide (M < 195) && ((cw_y M).name != "<init>") && decide (cw_mx M ≤ 40)
theorem cw_blind {D : va_G} {cs : Nat → ClassId} {ad : Nat → Nat} {as : List Value} {h : cw_H} : FrameBlind (cw_PN D cs ad as h) := fun a U g mk q => ⟨q.1, cw_K.same (s := U) (U := U.calling g mk a) rfl q.2.1, q.2.2⟩
theorem cw_good {M : Nat} (hM : M < 195) : GoodIn cw_t (cw_ws M) := by
  intro w hw
  rcases List.mem_cons.mp hw with rfl | h
  · have h1 := cw_code_in _ (cw_m_mem hM)
    exact ⟨h1, cw_t_good _ h1⟩
  · exact ⟨h, cw_t_good _ h⟩
theorem cw_goodW {Ts : List Cond} (h : ∀ w ∈ Ts, w ∈ cw_t) : GoodIn cw_t Ts := fun w hw => ⟨h w hw, cw_t_good _ (h w hw)⟩
theorem cw_facts {M : Nat} (hM : M < 195) : plainName (cw_y M).cls = true ∧ (cw_y M).cls ≠ "java/lang/invoke/MethodHandle" ∧ (cw_y M).cls ≠ "java/lang/invoke/VarHandle" ∧ (parseMethodDescriptor (cw_y M).desc).map (fun d => d.parameters.length) = some (cw_np M) := by
  have h := List.all_eq_true.mp cw_plain _ (cw_m_mem hM)
  simp only [Bool.and_eq_true, bne_iff_ne, decide_eq_true_eq] at h
  exact ⟨h.1.1.1, h.1.1.2, h.1.2, h.2⟩
/-- behind a call of a method that makes no cells -/
theorem cw_cont {p : Program} {l : Launch} {e : Env} {R : Room} {s : State} {m : MethodId} {args : Array Value} {below : List Frame} {meth : Method} {c : Code} {H : Heap} {locs : List Loc} {cells slots : Nat} {Q : State → Prop} {D : va_G} {cs : Nat → ClassId} {ad : Nat → Nat} {sh : List (Nat × Nat)} {A : Nat → Prop} {pc : Nat} {ls : Array Slot} {st0 rest : List Value} {a : Array Value} {Q' : Option Value → cw_H → Prop}
    (hr : va_Run p l e R s m args below meth c H locs cells slots 0 0 (F0 m pc ls st0) rest (cw_QN D cs ad sh Q' a) (cw_Ad ad sh.length)) (hS : va_S A s.heap H locs) (hA : ∀ q, cw_Ad ad sh.length q → A q)
    (kk : ∀ (r : Option Value) (h' : cw_H) (H1 : Heap) (locs1 : List Loc), Q' r h' → cw_hk h' = sh → va_P D cw_cl (cw_wd cs ad h') H1 → va_S A s.heap H1 locs1 → W p l e R s m args below meth c H1 locs1 cells slots Q (F0 m (pc + 3) ls ((r.map (cw_tr ad)).toList ++ rest))) : W p l e R s m args below meth c H locs cells slots Q (F0 m pc ls st0) := by
  intro T hT X
  obtain ⟨v, st₀, t, T', L, h0, X', hL, e1, e2, ⟨⟨r, h', hv, hq, hh, hP⟩, hz, hk⟩, st⟩ := hr T hT X
  cases hv
  rw [h0] at hz hk
  obtain ⟨t2, a1, b1⟩ := kk r h' T'.heap (locs ++ L) hq hh (by rw [e1]; exact hP)
    ⟨Nat.le_trans hS.1 (by rw [e1]; exact hz), fun q h1 h2 => by rw [e1, hk q (Nat.lt_of_lt_of_le h1 hS.1) (fun z => h2 (hA q z))]; exact hS.2.1 q h1 h2, fun q hq => by
      rcases List.mem_append.mp hq with h | h
      · exact hS.2.2 q h
      · exact hA _ (hL q h)⟩ T' rfl X'
  exact ⟨t2, st t2 a1, b1⟩
