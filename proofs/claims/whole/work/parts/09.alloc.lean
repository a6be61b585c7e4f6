/-! CELLS ARE MADE: the world's addresses grow -/
theorem arrV_congr {cI : ClassId} {N : Nat} {f g : Nat → Value} (h : ∀ j, j < N → f j = g j) : arrV cI N f = arrV cI N g := by
  unfold arrV
  congr 2
  funext j
  exact h j.val j.isLt
theorem cw_vo_tr {n : Nat} {ad ad' : Nat → Nat} (e : ∀ k, k < n → ad' k = ad k) {v : Value} (h : cw_vo n v = true) : cw_tr ad' v = cw_tr ad v := by
  cases v with
  | ref k =>
    show Value.ref (ad' k) = Value.ref (ad k)
    rw [e k (by simpa [cw_vo] using h)]
  | _ => rfl
theorem cw_so_tr {n : Nat} {ad ad' : Nat → Nat} (e : ∀ k, k < n → ad' k = ad k) {S : List Value} (h : cw_so n S = true) : S.map (cw_tr ad') = S.map (cw_tr ad) := by
  apply List.map_congr_left
  intro v hv
  exact cw_vo_tr e (List.all_eq_true.mp h v hv)
theorem cw_lo_pr {n : Nat} {ad ad' : Nat → Nat} (e : ∀ k, k < n → ad' k = ad k) {L : cw_L} (h : cw_lo n L = true) : ∀ q ∈ cw_pr ad' L, q ∈ cw_pr ad L := by
  intro q hq
  obtain ⟨v, h1, h2⟩ := cw_pr_mem.mp hq
  refine cw_pr_mem.mpr ⟨v, h1, ?_⟩
  rw [h2]
  exact cw_vo_tr e (List.all_eq_true.mp h (some v) (List.mem_of_getElem? h1))
theorem cw_qo_eq {n : Nat} {ad ad' : Nat → Nat} (e : ∀ k, k < n → ad' k = ad k) {f : Nat → Option Nat} : ∀ {len : Nat}, cw_qo n f len = true → ∀ j, j < len → (f j).map ad' = (f j).map ad
  | 0, _, j, hj => absurd hj (by omega)
  | k + 1, h, j, hj => by
    unfold cw_qo at h
    rw [Bool.and_eq_true] at h
    rcases Nat.lt_or_ge j k with q | q
    · exact cw_qo_eq e h.2 j q
    · have : j = k := by omega
      subst this
      have h1 := h.1
      cases hf : f j with
      | none => rfl
      | some p =>
        rw [hf] at h1
        show some (ad' p) = some (ad p)
        rw [e p (by simpa using h1)]
theorem cw_co_at {n : Nat} {cs : Nat → ClassId} {ad ad' : Nat → Nat} (e : ∀ k, k < n → ad' k = ad k) {c : cw_C} (h : cw_co n c = true) {D : va_G} {a : Nat} {H : Heap} (hc : va_at D cw_cl (a, cw_tc cs ad c) H) : va_at D cw_cl (a, cw_tc cs ad' c) H := by
  rcases c with ⟨t, len, f | f | f | f | f⟩ | ⟨ci, fs⟩
  · exact hc
  · exact hc
  · exact hc
  · exact hc
  · have hq : cw_qo n f len = true := h
    show H[a]? = some (vp_cell (cs t) (len, .inr (.inr (.inr (.inr (fun j => (f j).map ad'))))))
    have hc' : H[a]? = some (vp_cell (cs t) (len, .inr (.inr (.inr (.inr (fun j => (f j).map ad)))))) := hc
    rw [hc', vp_cell_q, vp_cell_q]
    congr 1
    apply arrV_congr
    intro j hj
    rw [cw_qo_eq e hq j hj]
  · have hq : fs.all (cw_vo n) = true := h
    have : fs.map (cw_tr ad') = fs.map (cw_tr ad) := cw_so_tr e hq
    show va_at D cw_cl (a, .inr (ci, fs.map (cw_tr ad'))) H
    rw [this]
    exact hc

theorem cw_wd_len {cs : Nat → ClassId} {ad : Nat → Nat} {h : cw_H} : (cw_wd cs ad h).length = h.length := by simp [cw_wd]
/-- the world with one cell more -/
theorem cw_grow {D : va_G} {cs : Nat → ClassId} {ad : Nat → Nat} {A : Nat → Prop} {g : cw_H} {c : cw_C} {q : Nat} {H1 : Heap} (ho : cw_ho g.length g = true) (hc : cw_tc cs (fun k => if k = g.length then q else ad k) c = cw_tc cs ad c)
    (hP : va_P D cw_cl (cw_wd cs ad g ++ [(q, cw_tc cs ad c)]) H1) (hD : va_D A (cw_wd cs ad g ++ [(q, cw_tc cs ad c)])) : va_P D cw_cl (cw_wd cs (fun k => if k = g.length then q else ad k) (g ++ [c])) H1 ∧ cw_ap A (fun k => if k = g.length then q else ad k) (g ++ [c]).length := by
  have e : ∀ k, k < g.length → (fun k => if k = g.length then q else ad k) k = ad k := fun k hk => by
    show (if k = g.length then q else ad k) = ad k
    rw [if_neg (by omega)]
  have at1 : ∀ (k : Nat) (x : cw_C), g[k]? = some x → (cw_wd cs ad g ++ [(q, cw_tc cs ad c)])[k]? = some (ad k, cw_tc cs ad x) := by
    intro k x hx
    rw [List.getElem?_append_left (by rw [cw_wd_len]; exact (List.getElem?_eq_some_iff.mp hx).1)]
    exact cw_wd_get hx
  have at2 : (cw_wd cs ad g ++ [(q, cw_tc cs ad c)])[g.length]? = some (q, cw_tc cs ad c) := by
    rw [List.getElem?_append_right (by rw [cw_wd_len]; exact Nat.le_refl _), cw_wd_len]
    simp
  have at3 : ∀ k, k < (g ++ [c]).length → ∃ E : va_E, (cw_wd cs ad g ++ [(q, cw_tc cs ad c)])[k]? = some ((if k = g.length then q else ad k), E) := by
    intro k hk
    rw [List.length_append, List.length_singleton] at hk
    rcases Nat.lt_or_ge k g.length with z | z
    · rw [if_neg (by omega)]
      exact ⟨_, at1 k _ (List.getElem?_eq_getElem z)⟩
    · have : k = g.length := by omega
      subst this
      rw [if_pos rfl]
      exact ⟨_, at2⟩
  refine ⟨fun k x hx => ?_, fun i j hi hj eij => ?_, fun i hi => ?_⟩
  · unfold cw_wd at hx
    rw [List.getElem?_mapIdx] at hx
    rcases Nat.lt_or_ge k g.length with z | z
    · rw [List.getElem?_append_left z] at hx
      cases hg : g[k]? with
      | none => rw [hg] at hx; cases hx
      | some y =>
        rw [hg] at hx
        cases hx
        have h1 := hP k _ (at1 k y hg)
        have h2 := cw_co_at (cs := cs) e (List.all_eq_true.mp ho y (List.mem_of_getElem? hg)) h1
        show va_at D cw_cl ((if k = g.length then q else ad k), _) H1
        rw [if_neg (by omega)]
        exact h2
    · rw [List.getElem?_append_right z] at hx
      have hk0 : k - g.length = 0 := by
        rcases Nat.eq_zero_or_pos (k - g.length) with w | w
        · exact w
        · rw [List.getElem?_eq_none (by simp; omega)] at hx
          cases hx
      have hk : k = g.length := by omega
      subst hk
      rw [hk0] at hx
      cases hx
      have h1 := hP _ _ at2
      show va_at D cw_cl ((if g.length = g.length then q else ad g.length), _) H1
      rw [if_pos rfl, hc]
      exact h1
  · obtain ⟨E1, h1⟩ := at3 i hi
    obtain ⟨E2, h2⟩ := at3 j hj
    exact hD.1 i j _ _ h1 h2 eij
  · obtain ⟨E1, h1⟩ := at3 i hi
    exact hD.2 i _ h1
theorem cw_sl_app {g : cw_H} {c : cw_C} : cw_sl (g ++ [c]) = cw_sl g + cw_sz c := by
  simp [cw_sl, cw_hd]
/-- a constructor's state: at whatever addresses its own cells have come to lie -/
def cw_KA (p : Program) (l : Launch) (e : Env) (R : Room) (s : State) (m : MethodId) (args : Array Value) (below : List Frame) (meth : Method) (c : Code) (D : va_G) (cs : Nat → ClassId) (ad0 : Nat → Nat) (A : Nat → Prop) (n0 s0 bc bs : Nat) (Qf : State → Prop) : Nat → cw_L → List Value → cw_H → Prop := fun pc L S g =>
  ∀ ad : Nat → Nat, (∀ i, i < n0 → ad i = ad0 i) → cw_ap A ad g.length → n0 ≤ g.length ∧ g.length ≤ bc → s0 ≤ cw_sl g ∧ cw_sl g ≤ bs → cw_G p l e R s m args below meth c D cs ad A (cw_hk g) (g.length - n0) (cw_sl g - s0) Qf pc L S g
def cw_isC (M : Nat) : Bool := decide (M < 195) && ((cw_y M).name == "<init>") && decide (cw_mx M ≤ 40)
def cw_PA (D : va_G) (cs : Nat → ClassId) (ad : Nat → Nat) (sz : Nat) (as : List Value) (h : cw_H) : Array Value → State → Prop := va_Pc (as.map (cw_tr ad)) (fun U => U.heap.size = sz ∧ cw_K D cs U ∧ va_P D cw_cl (cw_wd cs ad h) U.heap)
def cw_AA (ad : Nat → Nat) (n sz : Nat) : Nat → Prop := fun q => cw_Ad ad n q ∨ sz ≤ q
def cw_QA (D : va_G) (cs : Nat → ClassId) (ad : Nat → Nat) (n sz : Nat) (Q : Option Value → cw_H → Prop) : Array Value → State → Outcome → State → Prop := fun _ st oc t =>
  (∃ (h' : cw_H) (ad' : Nat → Nat), oc = .returned none ∧ Q none h' ∧ n ≤ h'.length ∧ (∀ i, i < n → ad' i = ad i) ∧ cw_ap (cw_AA ad n sz) ad' h'.length ∧ va_P D cw_cl (cw_wd cs ad' h') t.heap) ∧ va_F (cw_AA ad n sz) st t
/-- the contract of a constructor -/
def cw_MA (cM sM : Nat → Nat) (l : Launch) (D : va_G) (cs : Nat → ClassId) (ad : Nat → Nat) (d sz M : Nat) (as : List Value) (h : cw_H) (Q : Option Value → cw_H → Prop) : Prop :=
  Met l (cw_y M) (cw_ws M) (cw_rm d (cM M) (sM M)) (cw_PA D cs ad sz as h) (cw_QA D cs ad h.length sz Q) (cM M) (sM M) (cw_AA ad h.length sz)
/-- what is known inside a constructor M -/
def cw_CA (cM sM : Nat → Nat) (p : Program) (l : Launch) (R : Room) (s : State) (m : MethodId) (args : Array Value) (c : Code) (M : Nat) (D : va_G) (cs : Nat → ClassId) (A : Nat → Prop) (d : Nat) (C : Nat → List Value → cw_H → (Option Value → cw_H → Prop) → Prop) : Prop :=
  (p.tables.exec = Jvm.exec ∧ c.code = cw_b M ∧ c.maxLocals = cw_mx M ∧ s.vm.findClass (cw_y M).cls = some m.cls ∧ (∀ w ∈ cw_t, w.before args s = true)) ∧
  cw_K D cs s ∧ (d ≤ R.frames ∧ 100 * d ≤ R.locals ∧ R.cells = cM M ∧ R.slots = sM M) ∧ (∀ q, s.heap.size ≤ q → A q) ∧
  (∀ (M' : Nat) (as : List Value) (h : cw_H) (Q' : Option Value → cw_H → Prop), cw_isC M' = true → C M' as h Q' → (∀ r g, Q' r g → r = none) → ∃ d' : Nat, d = d' + 1 ∧ ∀ (ad : Nat → Nat) (sz : Nat), cw_ap (fun _ => True) ad h.length → cw_MA cM sM l D cs ad d' sz M' as h Q')
def cw_SA (cM sM : Nat → Nat) (M pc : Nat) (sem : cw_S) : Prop := ∀ (p : Program) (l : Launch) (e : Env) (R : Room) (s : State) (m : MethodId) (args : Array Value) (below : List Frame) (meth : Method) (c : Code) (D : va_G) (cs : Nat → ClassId) (ad0 : Nat → Nat) (A : Nat → Prop) (n0 s0 : Nat) (Qf : State → Prop) (d : Nat) (C : Nat → List Value → cw_H → (Option Value → cw_H → Prop) → Prop) (Q : Option Value → cw_H → Prop) (L : cw_L) (S : List Value) (h : cw_H),
  cw_CA cM sM p l R s m args c M D cs A d C →
  cw_wp cM sM C (cw_KA p l e R s m args below meth c D cs ad0 A n0 s0 (n0 + cM M) (s0 + sM M) Qf) Q (n0 + cM M) (s0 + sM M) (sem d L S h) → cw_KA p l e R s m args below meth c D cs ad0 A n0 s0 (n0 + cM M) (s0 + sM M) Qf pc L S h
section
variable {cM sM : Nat → Nat} {M pc : Nat}
theorem cw_made {p : Program} {l : Launch} {e : Env} {R : Room} {s : State} {m : MethodId} {args : Array Value} {below : List Frame} {meth : Method} {c : Code} {D : va_G} {cs : Nat → ClassId} {ad0 ad : Nat → Nat} {A : Nat → Prop} {n0 s0 bc bs : Nat} {Qf : State → Prop} {L : cw_L} {S : List Value} {g : cw_H} {x : cw_C} {q n : Nat} {H1 : Heap} {locs : List Loc} {ls : Array Slot}
    (hk : cw_KA p l e R s m args below meth c D cs ad0 A n0 s0 bc bs Qf pc L (.ref g.length :: S) (g ++ [x])) (b1 : g.length + 1 ≤ bc) (b2 : cw_sl g + n ≤ bs) (ho : cw_ho g.length g = true) (hlo : cw_lo g.length L = true) (hso : cw_so g.length S = true) (hag : ∀ i, i < n0 → ad i = ad0 i) (hn : n0 ≤ g.length) (hs : s0 ≤ cw_sl g) (hL : L.length = c.maxLocals) (hsz : cw_sz x = n)
    (ec : ∀ a : Nat → Nat, cw_tc cs a x = cw_tc cs ad x) (hP1 : va_P D cw_cl (cw_wd cs ad g ++ [(q, cw_tc cs ad x)]) H1) (hD1 : va_D A (cw_wd cs ad g ++ [(q, cw_tc cs ad x)])) (hS1 : va_S A s.heap H1 locs) (hl : lv_has ls c.maxLocals (cw_pr ad L)) :
    W p l e R s m args below meth c H1 locs (g.length - n0 + 1) (cw_sl g - s0 + n) Qf (F0 m pc ls (.ref q :: S.map (cw_tr ad))) := by
  obtain ⟨hP2, hap2⟩ := cw_grow (D := D) (cs := cs) (ad := ad) (A := A) (q := q) (H1 := H1) (c := x) ho (ec _) hP1 hD1
  have hag2 : ∀ k, k < g.length → (fun k => if k = g.length then q else ad k) k = ad k := fun k hk => by
    show (if k = g.length then q else ad k) = ad k
    rw [if_neg (by omega)]
  have hlen2 : (g ++ [x]).length = g.length + 1 := by simp
  have hsl2 : cw_sl (g ++ [x]) = cw_sl g + n := by rw [cw_sl_app, hsz]
  have := hk (fun k => if k = g.length then q else ad k) (fun i hi => (hag2 i (by omega)).trans (hag i hi)) hap2 ⟨by omega, by omega⟩ ⟨by omega, by omega⟩ rfl hL H1 locs ls hP2 hS1 (hl.le (cw_lo_pr hag2 hlo))
  rw [hlen2, hsl2] at this
  rw [show g.length - n0 + 1 = g.length + 1 - n0 by omega, show cw_sl g - s0 + n = cw_sl g + n - s0 by omega]
  rw [List.map_cons, cw_so_tr hag2 hso] at this
  have e3 : cw_tr (fun k => if k = g.length then q else ad k) (.ref g.length) = .ref q := by
    show Value.ref (if g.length = g.length then q else ad g.length) = .ref q
    rw [if_pos rfl]
  rw [e3] at this
  exact this
theorem so_new {ci idx N : Nat} {C : String} {T : u_T} {ty : Nat → FieldType} {fs : List Value} (hd : decode (cw_b M) pc = .ok (.new idx, 3)) (hc : cw_cl[ci]? = some (C, T, N)) (hin : ∀ w ∈ u_ws C T N, w ∈ cw_t) (hty : ∀ k, k < N → parseFieldDescriptor (T k).2.2.1 = some (ty k)) (h1 : Cond.classLink (cw_y M).cls idx C ∈ cw_t) (h2 : Cond.instantiable C N ∈ cw_t) (h3 : Cond.initialized C ∈ cw_t) (hfs : ∀ j, j < N → defaultValue (ty j) = vp_V fs j) (hlen : fs.length = N) (hno : fs.all (cw_vo 0) = true) : cw_SA cM sM M pc (s_new ci fs (pc + 3)) := by
  intro p l e R s m args below meth c D cs ad0 A n0 s0 Qf d C Q L S g X hw ad hag hap hn hs hsh hL H locs ls hP hS hl
  obtain ⟨⟨hx, hb, hml, hown, hts⟩, hK, hR, hA, -⟩ := X
  obtain ⟨⟨b1, b2, ho, hlo, hso⟩, hk⟩ := hw
  have hD : va_D A (cw_wd cs ad g) := cw_ap.D hap
  have hz : ∀ a : Nat → Nat, fs.map (cw_tr a) = fs := by
    intro a
    have : fs.map (cw_tr a) = fs.map id := by
      apply List.map_congr_left
      intro v hv
      have h0 := List.all_eq_true.mp hno v hv
      cases v with
      | ref k => simp [cw_vo] at h0
      | _ => rfl
    rw [this, List.map_id]
  have ec : ∀ a : Nat → Nat, cw_tc cs a (.inr (ci, fs)) = .inr (ci, fs) := fun a => by show Sum.inr (ci, fs.map (cw_tr a)) = _; rw [hz a]
  refine va_new (D := D) (fs := fs) (cells := g.length - n0) (slots := cw_sl g - s0) hx hb hts hin ty hty hown (hts _ h1) (hts _ h2) (hts _ h3) hK.1 hP hD hS hA hc hfs (by omega) (by omega) hd (fun q H1 hP1 hD1 hS1 => ?_)
  exact cw_made hk b1 (by first | exact b2 | (rw [← hlen]; exact b2)) ho hlo hso hag hn.1 hs.1 hL hlen (fun a => by rw [ec, ec]) (by rw [ec]; exact hP1) (by rw [ec]; exact hD1) hS1 hl
theorem cw_cls_eq {D : va_G} {cs : Nat → ClassId} {s : State} {t : Nat} {ty : FieldType} {cA : ClassId} (ht : (cw_ty cs)[t]? = some (cs t, ty)) (hty : ty = .int ∨ ty = .long ∨ ∃ C, ty = .object C) (hK : va_K D cw_cl (cw_ty cs ++ [(cA, ty)]) s) : cA = cs t := by
  have hl : t < (cw_ty cs).length := (List.getElem?_eq_some_iff.mp ht).1
  have h1 := (hK.2 t (cs t, ty) (by rw [List.getElem?_append_left hl]; exact ht)).2
  have h2 := (hK.2 (cw_ty cs).length (cA, ty) (by simp)).2
  rcases hty with rfl | rfl | ⟨C, rfl⟩
  · exact Option.some.inj (h2.symm.trans h1)
  · exact Option.some.inj (h2.symm.trans h1)
  · obtain ⟨_, _, _, _, _, e1⟩ := h1
    obtain ⟨_, _, _, _, _, e2⟩ := h2
    exact Option.some.inj (e2.symm.trans e1)
theorem so_newI (hd : decode (cw_b M) pc = .ok (.newarray .int, 2)) (h1 : Cond.arrayClass .int ∈ cw_t) : cw_SA cM sM M pc (s_newa 0 (pc + 2)) := by
  intro p l e R s m args below meth c D cs ad0 A n0 s0 Qf d C Q L S g X hw ad hag hap hn hs hsh hL H locs ls hP hS hl
  obtain ⟨⟨hx, hb, hml, hown, hts⟩, hK, hR, hA, -⟩ := X
  unfold s_newa at hw
  split at hw
  · rename_i k r
    split at hw
    · rename_i hk0
      obtain ⟨⟨b1, b2, ho, hlo, hso⟩, hk⟩ := hw
      have hD : va_D A (cw_wd cs ad g) := cw_ap.D hap
      refine va_newa (D := D) (atype := .int) (a0 := (k.toNatClampNeg, .inl (fun _ => 0))) (cells := g.length - n0) (slots := cw_sl g - s0) hx hb (hts _ h1) rfl hK.1 hP hD hS hA (fun _ => rfl) hk0.1 rfl (by show _ * 4 ≤ _; omega) (by omega) (by omega) hd (fun q cA H1 hK1 hP1 hD1 hS1 => ?_)
      have ecA : cA = cs 0 := cw_cls_eq (ty := .int) rfl (Or.inl rfl) hK1
      subst ecA
      exact cw_made hk b1 (by first | exact b2 | (rw [← hlen]; exact b2)) ho hlo hso hag hn.1 hs.1 hL rfl (fun a => rfl) hP1 hD1 hS1 hl
    · exact hw.elim
  · exact hw.elim
theorem so_newL (hd : decode (cw_b M) pc = .ok (.newarray .long, 2)) (h1 : Cond.arrayClass .long ∈ cw_t) : cw_SA cM sM M pc (s_newa 1 (pc + 2)) := by
  intro p l e R s m args below meth c D cs ad0 A n0 s0 Qf d C Q L S g X hw ad hag hap hn hs hsh hL H locs ls hP hS hl
  obtain ⟨⟨hx, hb, hml, hown, hts⟩, hK, hR, hA, -⟩ := X
  unfold s_newa at hw
  split at hw
  · rename_i k r
    split at hw
    · rename_i hk0
      obtain ⟨⟨b1, b2, ho, hlo, hso⟩, hk⟩ := hw
      have hD : va_D A (cw_wd cs ad g) := cw_ap.D hap
      refine va_newa (D := D) (atype := .long) (a0 := (k.toNatClampNeg, .inr (.inl (fun _ => 0)))) (cells := g.length - n0) (slots := cw_sl g - s0) hx hb (hts _ h1) rfl hK.1 hP hD hS hA (fun _ => rfl) hk0.1 rfl (by show _ * 8 ≤ _; omega) (by omega) (by omega) hd (fun q cA H1 hK1 hP1 hD1 hS1 => ?_)
      have ecA : cA = cs 1 := cw_cls_eq (ty := .long) rfl (Or.inr (Or.inl rfl)) hK1
      subst ecA
      exact cw_made hk b1 (by first | exact b2 | (rw [← hlen]; exact b2)) ho hlo hso hag hn.1 hs.1 hL rfl (fun a => rfl) hP1 hD1 hS1 hl
    · exact hw.elim
  · exact hw.elim
theorem so_newR {t idx : Nat} (ht : t < 2) (hd : decode (cw_b M) pc = .ok (.anewarray idx, 3)) (h1 : Cond.classLink (cw_y M).cls idx (cw_rn t) ∈ cw_t) : cw_SA cM sM M pc (s_newa (t + 2) (pc + 3)) := by
  intro p l e R s m args below meth c D cs ad0 A n0 s0 Qf d C Q L S g X hw ad hag hap hn hs hsh hL H locs ls hP hS hl
  obtain ⟨⟨hx, hb, hml, hown, hts⟩, hK, hR, hA, -⟩ := X
  have hAO : va_AO (cw_rn t) s := by
    rcases (show t = 0 ∨ t = 1 by omega) with rfl | rfl
    · exact hK.2.2.1
    · exact hK.2.2.2
  unfold s_newa at hw
  split at hw
  · rename_i k r
    split at hw
    · rename_i hk0
      have hrow : cw_row (t + 2) k.toNatClampNeg = some (.inl (t + 2, k.toNatClampNeg, .inr (.inr (.inr (.inr (fun _ => none)))))) := by
        rcases (show t = 0 ∨ t = 1 by omega) with rfl | rfl <;> rfl
      rw [hrow] at hw
      obtain ⟨⟨b1, b2, ho, hlo, hso⟩, hk⟩ := hw
      have hD : va_D A (cw_wd cs ad g) := cw_ap.D hap
      refine va_newq (D := D) (cells := g.length - n0) (slots := cw_sl g - s0) hx hb hown (hts _ h1) hAO hK.1 hP hD hS hA hk0.1 rfl (by omega) (by omega) (by omega) hd (fun q cA H1 hK1 hP1 hD1 hS1 => ?_)
      have ecA : cA = cs (t + 2) := cw_cls_eq (cw_ty_r ht) (Or.inr (Or.inr ⟨_, rfl⟩)) hK1
      subst ecA
      exact cw_made hk b1 (by first | exact b2 | (rw [← hlen]; exact b2)) ho hlo hso hag hn.1 hs.1 hL rfl (fun a => rfl) hP1 hD1 hS1 hl
    · exact hw.elim
  · exact hw.elim
/-- behind a call of a constructor -/
theorem cw_contA {p : Program} {l : Launch} {e : Env} {R : Room} {s : State} {m : MethodId} {args : Array Value} {below : List Frame} {meth : Method} {c : Code} {H : Heap} {locs : List Loc} {cells slots mc ms : Nat} {Q : State → Prop} {D : va_G} {cs : Nat → ClassId} {ad : Nat → Nat} {n : Nat} {A : Nat → Prop} {pc : Nat} {ls : Array Slot} {st0 rest : List Value} {a : Array Value} {Q' : Option Value → cw_H → Prop}
    (hr : va_Run p l e R s m args below meth c H locs cells slots mc ms (F0 m pc ls st0) rest (cw_QA D cs ad n H.size Q' a) (cw_AA ad n H.size)) (hS : va_S A s.heap H locs) (hA : ∀ q, cw_Ad ad n q → A q) (hA2 : ∀ q, s.heap.size ≤ q → A q)
    (kk : ∀ (h' : cw_H) (ad' : Nat → Nat) (H1 : Heap) (locs1 : List Loc), Q' none h' → n ≤ h'.length → (∀ i, i < n → ad' i = ad i) → cw_ap A ad' h'.length → va_P D cw_cl (cw_wd cs ad' h') H1 → va_S A s.heap H1 locs1 → W p l e R s m args below meth c H1 locs1 (cells + mc) (slots + ms) Q (F0 m (pc + 3) ls rest)) : W p l e R s m args below meth c H locs cells slots Q (F0 m pc ls st0) := by
  have hAA : ∀ q, cw_AA ad n H.size q → A q := fun q h => h.elim (hA q) (fun z => hA2 q (Nat.le_trans hS.1 z))
  intro T hT X
  obtain ⟨v, st₀, t, T', L, h0, X', hL, e1, e2, ⟨⟨h', ad', hv, hq, hn, hag, hap, hP⟩, hz, hk⟩, st⟩ := hr T hT X
  cases hv
  rw [h0] at hz hk
  obtain ⟨t2, a1, b1⟩ := kk h' ad' T'.heap (locs ++ L) hq hn hag ⟨hap.1, fun i hi => hAA _ (hap.2 i hi)⟩ (by rw [e1]; exact hP)
    ⟨Nat.le_trans hS.1 (by rw [e1]; exact hz), fun q h1 h2 => by rw [e1, hk q (Nat.lt_of_lt_of_le h1 hS.1) (fun z => h2 (hAA q z))]; exact hS.2.1 q h1 h2, fun q hq => by
      rcases List.mem_append.mp hq with h | h
      · exact hS.2.2 q h
      · exact hAA _ (hL q h)⟩ T' rfl X'
  exact ⟨t2, st t2 a1, b1⟩
theorem cw_blindA {D : va_G} {cs : Nat → ClassId} {ad : Nat → Nat} {sz : Nat} {as : List Value} {h : cw_H} : FrameBlind (cw_PA D cs ad sz as h) := fun a U g mk q => ⟨q.1, q.2.1, cw_K.same (s := U) (U := U.calling g mk a) rfl q.2.2.1, q.2.2.2⟩
/-- a constructor is called: by a link of the class itself, or by one of its nest's -/
theorem so_callI {M' n idx : Nat} (hd : decode (cw_b M) pc = .ok (.invokespecial idx, 3)) (h1 : Cond.methodLink (cw_y M).cls idx (cw_y M') ∈ cw_t ∨ ∃ host, Cond.methodLinkNest (cw_y M).cls idx (cw_y M') host ∈ cw_nest) (h2 : Cond.instanceMethod (cw_y M') ∈ cw_t) (hr : cw_rt M' = none) (hn0 : cw_np M' = n) (hC' : cw_isC M' = true) : cw_SA cM sM M pc (s_callI M' n (pc + 3)) := by
  intro p l e R s m args below meth c D cs ad0 A n0 s0 Qf d C Q L S g X hw ad hag hap hn hs hsh hL H locs ls hP hS hl
  obtain ⟨⟨hx, hb, hml, hown, hts⟩, hK, hR, hA, hC⟩ := X
  have hNN := hC'
  unfold cw_isC at hNN
  simp only [Bool.and_eq_true, decide_eq_true_eq, beq_iff_eq] at hNN
  have hM' : M' < 195 := hNN.1.1
  have hmx : cw_mx M' ≤ 40 := hNN.2
  unfold s_callI at hw
  split at hw
  · rename_i as p1 r hpop
    split at hw
    · rename_i hh
      obtain ⟨g1, g3, g4⟩ := hh
      obtain ⟨eS, eA⟩ := cw_pop_eq hpop g3
      obtain ⟨⟨b1, b2, ho, hlo, hso⟩, hcall⟩ := hw
      obtain ⟨d', ed, hM0⟩ := hC M' _ g _ hC' hcall (fun _ _ z => z.1)
      have hM := hM0 ad H.size ⟨hap.1, fun _ _ => trivial⟩
      subst ed
      obtain ⟨f1, f2, f3, f4⟩ := cw_facts hM'
      have hini : Cond.initialized (cw_y M').cls ∈ cw_t := cw_init_in _ (cw_m_mem hM')
      have hpre : PreS s H (cw_PA D cs ad H.size (.ref p1 :: as) g) (.ref (ad p1) :: as.map (cw_tr ad)) := ⟨cw_blindA, fun U hU hW => ⟨rfl, by rw [hU], hK.warm hW, by rw [hU]; exact hP⟩⟩
      have hst : (F0 m pc ls (S.map (cw_tr ad))).stack = (as.map (cw_tr ad)).reverse ++ .ref (ad p1) :: r.map (cw_tr ad) := by
        show S.map (cw_tr ad) = _
        rw [eS, List.map_append, List.map_reverse]
        rfl
      have hws : cw_ws M' = Cond.code (cw_y M') (cw_b M') (cw_mx M') none :: cw_t := by
        unfold cw_ws
        rw [hr]
      have hrun : va_Run p l e R s m args below meth c H locs (g.length - n0) (cw_sl g - s0) (cM M') (sM M') (F0 m pc ls (S.map (cw_tr ad))) (r.map (cw_tr ad)) (cw_QA D cs ad g.length H.size (fun r h' => r = none ∧ h'.length = g.length + cM M' ∧ cw_sl h' = cw_sl g + sM M' ∧ cw_KA p l e R s m args below meth c D cs ad0 A n0 s0 (n0 + cM M) (s0 + sM M) Qf (pc + 3) L ‹_› h') (Value.ref (ad p1) :: as.map (cw_tr ad)).toArray) (cw_AA ad g.length H.size) := by
        rcases h1 with h1 | ⟨host, h1⟩
        · exact va_runI (As := as.map (cw_tr ad)) (b := ad p1) ⟨hx, hb, hml, hown, hts⟩ hM
            (cwI (R := R) n hts (cw_good hM') hws rfl rfl (hts _ hini) (hts _ h1) (hts _ h2) hNN.1.2 ⟨f2, f3, by rw [f4, hn0]⟩ ⟨by show d' + 1 ≤ R.frames; omega, by show 8 + (cw_mx M' + 11) + 100 * d' ≤ R.locals; omega⟩)
            hpre rfl (by rw [List.length_map]; exact eA) (by show ls.size = cw_mx M; rw [hl.1, hml]) hst (by show 2 * 0 + _ ≤ 8; rw [cw_ct_map]; omega) hd ⟨by omega, by omega⟩
        · exact va_runIN (As := as.map (cw_tr ad)) (b := ad p1) ⟨hx, hb, hml, hown, hts⟩ hM
            ⟨va_cnB (R := R) n hts (cw_good hM') hws rfl rfl (hK.2.1 _ h1) (hts _ hini) ⟨f2, f3, by rw [f4, hn0]⟩ ⟨by show d' + 1 ≤ R.frames; omega, by show 8 + (cw_mx M' + 11) + 100 * d' ≤ R.locals; omega⟩, hNN.1.2, hts _ h2⟩
            hpre rfl (by rw [List.length_map]; exact eA) (by show ls.size = cw_mx M; rw [hl.1, hml]) hst (by show 2 * 0 + _ ≤ 8; rw [cw_ct_map]; omega) hd ⟨by omega, by omega⟩
      refine cw_contA hrun hS (fun q hq => by obtain ⟨i, hi, rfl⟩ := hq; exact hap.2 i hi) hA (fun h' ad' H1 locs1 hQ hle hag' hap' hP1 hS1 => ?_)
      obtain ⟨-, e1, e2, hk⟩ := hQ
      have := hk ad' (fun i hi => (hag' i (by omega)).trans (hag i hi)) hap' ⟨by omega, by omega⟩ ⟨by omega, by omega⟩ rfl hL H1 locs1 ls hP1 hS1 (hl.le (cw_lo_pr hag' hlo))
      rw [cw_so_tr hag' hso, e1, e2] at this
      rw [show g.length - n0 + cM M' = g.length + cM M' - n0 by omega, show cw_sl g - s0 + sM M' = cw_sl g + sM M' - s0 by omega]
      exact this
    · exact hw.elim
  · exact hw.elim
end
