/-! THE CLAIM OUT OF ONE WALK OF THE LAW'S BODY. Your part is whole_start (and what it stands on); all else here is the same for every law, but numbers. -/
def lw_P (b : Addr) (xs : List Int32) (args : Array Value) (s : State) : Prop := args = #[.ref b] ∧ s.IntsAt b xs ∧ xs.length ≤ 2048 ∧ (Jvm.Cond.and given_1 narrow_1).before args s = true
def lw_Q (_ : Array Value) (s : State) (o : Outcome) (t : State) : Prop := o = .returned (some (.int 1)) ∧ Framed s o t [] 600000 7302250
def lw_Z (below : List Frame) (a : Array Value) (s : State) : State → Prop := fun t => ∃ o, t.status = .running ∧ Ended t below o ∧ lw_Q a s o t
/-- the law's own end, with 1 on the stack, nothing written that was there before, its room as the claim has it -/
theorem lw_ret {p : Program} {l : Launch} {e : Env} {s : State} {m : MethodId} {below : List Frame} {meth : Method} {c : Code} {b : Nat} (hx : p.tables.exec = Jvm.exec) (hb : c.code = code) (hr : meth.sig.returnType = ret) (hlocks : meth.locks = false) {pc : Nat} {H : Heap} {ls : Array Slot} (hdg : decode code pc = .ok (.ireturn, 1)) : W p l e room_1 s m #[Value.ref b] below meth c H [] 600000 7302250 (lw_Z below #[Value.ref b] s) (F0 m pc ls [.int 1]) := by
  intro T hT X
  obtain ⟨fs, hret, hrun, hended, hW, hframe⟩ := X.leave (v := some (.int 1)) (hlocks := hlocks) (fun h => by rw [hr] at h; cases h)
  have hmeth' : T.vm.method? m = some meth := X.method'
  refine ⟨T.setFrames fs, ?_, .returned (some (.int 1)), hrun, hended, rfl, ⟨_, rfl⟩, hW, hframe⟩
  jvm_step X.here [X.here.top, hx, hb, hdg, hmeth', hr, ret, narrow_b1]
  (try refine ⟨rfl, ?_⟩); (try refine ⟨rfl, ?_⟩)
  first | (intro acts; rw [hret _ acts rfl rfl rfl]) | rw [hret _ _ rfl rfl rfl]
  exact Steps.refl _
/-- what holds at the law's entry: the machine, the code, the tables' words (any of lw_tbl by 'hts w (by decide +kernel)'), the script of L ints xs at the cell b, what the Statement gives of the start (any of its parts by flat_of_before) -/
def lw_At (p : Program) (s : State) (m : MethodId) (meth : Method) (c : Code) (b L : Nat) (xs : Nat → Int32) : Prop :=
  p.tables.exec = Jvm.exec ∧ c.code = code ∧ meth.sig.returnType = ret ∧ c.maxLocals = 4 ∧ s.vm.findClass R_law = some m.cls ∧ (∀ w ∈ lw_tbl, w.before #[Value.ref b] s = true) ∧ va_X b L xs s s.heap ∧ b < s.heap.size ∧ meth.locks = false ∧ (Jvm.Cond.and given_1 narrow_1).before #[Value.ref b] s = true
/-! ROWS EQUAL AS FAR AS THEY REACH ARE THE SAME CELLS -/
theorem celE_at {D : va_G} {cs : Nat → ClassId} {ad : Nat → Nat} {a : Nat} {H : Heap} {x y : cw_C} (h : celE x y) (hc : va_at D cw_cl (a, cw_tc cs ad x) H) : va_at D cw_cl (a, cw_tc cs ad y) H := by
  unfold celE at h
  split at h
  · obtain ⟨e1, e2⟩ := h
    subst e1
    subst e2
    exact hc
  · rename_i t n f t' n' f'
    obtain ⟨e1, e2, e3⟩ := h
    subst e1
    subst e2
    have hc' : H[a]? = some (vp_cell (cs t) (n, .inl f)) := hc
    show H[a]? = some (vp_cell (cs t) (n, .inl f'))
    rw [hc', vp_cell_i, vp_cell_i]
    congr 1
    apply arrV_congr
    intro j hj
    rw [e3 j hj]
  · rename_i t n f t' n' f'
    obtain ⟨e1, e2, e3⟩ := h
    subst e1
    subst e2
    have hc' : H[a]? = some (vp_cell (cs t) (n, .inr (.inl f))) := hc
    show H[a]? = some (vp_cell (cs t) (n, .inr (.inl f')))
    rw [hc', vp_cell_l, vp_cell_l]
    congr 1
    apply arrV_congr
    intro j hj
    rw [e3 j hj]
  · rename_i t n f t' n' f'
    obtain ⟨e1, e2, e3⟩ := h
    subst e1
    subst e2
    have hc' : H[a]? = some (vp_cell (cs t) (n, .inr (.inr (.inr (.inr (fun j => (f j).map ad)))))) := hc
    show H[a]? = some (vp_cell (cs t) (n, .inr (.inr (.inr (.inr (fun j => (f' j).map ad))))))
    rw [hc', vp_cell_q, vp_cell_q]
    congr 1
    apply arrV_congr
    intro j hj
    rw [e3 j hj]
  · exact h.elim
theorem heqE_P {D : va_G} {cs : Nat → ClassId} {ad : Nat → Nat} {H : Heap} {g g' : cw_H} (h : heqE g g') (hP : va_P D cw_cl (cw_wd cs ad g) H) : va_P D cw_cl (cw_wd cs ad g') H := by
  intro k q hq
  unfold cw_wd at hq
  rw [List.getElem?_mapIdx] at hq
  cases hy : g'[k]? with
  | none => rw [hy] at hq; cases hq
  | some y =>
    rw [hy] at hq
    cases hq
    have hk : k < g.length := by rw [h.1]; exact (List.getElem?_eq_some_iff.mp hy).1
    exact celE_at (h.2 k _ y (List.getElem?_eq_getElem hk) hy) (hP k _ (cw_wd_get (List.getElem?_eq_getElem hk)))
theorem lw_recv {h : cw_H} {σ : cw_V} {lam : Nat → Int64} (e : cw_hk h = cw_hk (cw_B σ lam)) : h.length = 175 ∧ ∃ fs, h[146]? = some (.inr (9, fs)) := by
  have hl : h.length = 175 := by
    rw [← cw_hk_len, e, cw_hk_len]
    rfl
  refine ⟨hl, ?_⟩
  have h1 : (cw_hk h)[146]? = some (45, 10) := by
    rw [e]
    rfl
  unfold cw_hk at h1
  rw [List.getElem?_map] at h1
  cases hc : h[146]? with
  | none => rw [hc] at h1; cases h1
  | some x =>
    rw [hc] at h1
    have h2 : (cw_sz x, cw_kz x) = (45, 10) := Option.some.inj h1
    have h3 : cw_kz x = 10 := congrArg Prod.snd h2
    rcases x with a | ⟨ci, fs⟩
    · exact absurd h3 (by show ¬ (0 : Nat) = 10; omega)
    · have h4 : ci + 1 = 10 := h3
      have h5 : ci = 9 := by omega
      subst h5
      exact ⟨fs, rfl⟩
section
variable {p : Program} {l : Launch} {e : Env} {s : State} {m : MethodId} {below : List Frame} {meth : Method} {c : Code} {b L : Nat} {xs : Nat → Int32} {D : va_G} {cs : Nat → ClassId} {ad : Nat → Nat} {H : Heap} {locs : List Loc} {cells slots : Nat} {Qf : State → Prop} {ls : Array Slot} {rest : List Value} {h : cw_H}
theorem lw_ts (C0 : lw_At p s m meth c b L xs) : ∀ w ∈ cw_t, w.before #[Value.ref b] s = true := fun w hw => C0.2.2.2.2.2.1 w (List.mem_filter.mp hw).1
/-- the classes, the rows' classes, the nest's words -/
theorem lw_kinds (C0 : lw_At p s m meth c b L xs) : ∃ (D : va_G) (cs : Nat → ClassId), cw_K D cs s := by
  have hts := lw_ts C0
  have hts0 : ∀ w ∈ lw_tbl, w.before #[Value.ref b] s = true := C0.2.2.2.2.2.1
  obtain ⟨c0, i0, k0⟩ := u_known (C := RX0) (T := TX0) (N := 3) (n := 3) hts iX0 (hts _ lx_ins0)
  obtain ⟨c1, i1, k1⟩ := u_known (C := RX1) (T := TX1) (N := 4) (n := 4) hts iX1 (hts _ lx_ins1)
  obtain ⟨c2, i2, k2⟩ := u_known (C := RX2) (T := TX2) (N := 10) (n := 10) hts iX2 (hts _ lx_ins2)
  obtain ⟨c3, i3, k3⟩ := u_known (C := RX3) (T := TX3) (N := 10) (n := 10) hts iX3 (hts _ lx_ins3)
  obtain ⟨c4, i4, k4⟩ := u_known (C := RX4) (T := TX4) (N := 5) (n := 5) hts iX4 (hts _ lx_ins4)
  obtain ⟨c5, i5, k5⟩ := u_known (C := RX5) (T := TX5) (N := 9) (n := 9) hts iX5 (hts _ lx_ins5)
  obtain ⟨c6, i6, k6⟩ := u_known (C := RX6) (T := TX6) (N := 12) (n := 12) hts iX6 (hts _ lx_ins6)
  obtain ⟨c7, i7, k7⟩ := u_known (C := RX7) (T := TX7) (N := 7) (n := 7) hts iX7 (hts _ lx_ins7)
  obtain ⟨c8, i8, k8⟩ := u_known (C := RX8) (T := TX8) (N := 9) (n := 9) hts iX8 (hts _ lx_ins8)
  obtain ⟨c9, i9, k9⟩ := u_known (C := RX9) (T := TX9) (N := 45) (n := 45) hts iX9 (hts _ lx_ins9)
  obtain ⟨a0, z0, w0, f0, g0, q0⟩ := Cond.arrayClass_spec (hts0 _ lx_ac_int)
  obtain ⟨a1, z1, w1, f1, g1, q1⟩ := Cond.arrayClass_spec (hts0 _ lx_ac_long)
  have ao6 : va_AO RX6 s := va_AO.of (hts0 _ lx_ao6)
  have ao2 : va_AO RX2 s := va_AO.of (hts0 _ lx_ao2)
  obtain ⟨w2, a2, z2, f2, -, g2, q2, n2⟩ := Cond.arrayOver_spec ao6
  obtain ⟨w3, a3, z3, f3, -, g3, q3, n3⟩ := Cond.arrayOver_spec ao2
  refine ⟨(fun k => match k with | 0 => c0 | 1 => c1 | 2 => c2 | 3 => c3 | 4 => c4 | 5 => c5 | 6 => c6 | 7 => c7 | 8 => c8 | _ => c9, fun k => match k with | 0 => i0 | 1 => i1 | 2 => i2 | 3 => i3 | 4 => i4 | 5 => i5 | 6 => i6 | 7 => i7 | 8 => i8 | _ => i9), fun k => match k with | 0 => a0 | 1 => a1 | 2 => a2 | _ => a3, ⟨fun k q hq => ?_, fun k q hq => ?_⟩, fun w hw => ?_, ao6, ao2⟩
  · match k, hq with
    | 0, hq => cases hq; exact k0
    | 1, hq => cases hq; exact k1
    | 2, hq => cases hq; exact k2
    | 3, hq => cases hq; exact k3
    | 4, hq => cases hq; exact k4
    | 5, hq => cases hq; exact k5
    | 6, hq => cases hq; exact k6
    | 7, hq => cases hq; exact k7
    | 8, hq => cases hq; exact k8
    | 9, hq => cases hq; exact k9
    | k + 10, hq => simp [cw_cl] at hq
  · match k, hq with
    | 0, hq => cases hq; exact ⟨fun n z => ⟨fun k h => (by cases h), z0, g0, w0, q0⟩, f0⟩
    | 1, hq => cases hq; exact ⟨fun n z => ⟨fun k h => (by cases h), z1, g1, w1, q1⟩, f1⟩
    | 2, hq => cases hq; exact ⟨fun n z => ⟨fun k h => (by cases h), z2, g2, w2, q2⟩, z2, w2, g2, q2, f2, n2⟩
    | 3, hq => cases hq; exact ⟨fun n z => ⟨fun k h => (by cases h), z3, g3, w3, q3⟩, z3, w3, g3, q3, f3, n3⟩
    | k + 4, hq => simp [cw_ty] at hq
  · simp only [cw_nest, List.mem_cons, List.not_mem_nil, or_false] at hw
    rcases hw with rfl | rfl | rfl | rfl | rfl | rfl
    · exact va_Nw.of rfl (hts0 _ lx_ne0)
    · exact va_Nw.of rfl (hts0 _ lx_ne1)
    · exact va_Nw.of rfl (hts0 _ lx_ne2)
    · exact va_Nw.of rfl (hts0 _ lx_ne3)
    · exact va_Nw.of rfl (hts0 _ lx_ne4)
    · exact va_Nw.of rfl (hts0 _ lx_ne5)
/-- the law calls a method -/
theorem lw_callV {pc idx ci M' n p1 N : Nat} {T : u_T} {fs as : List Value} {Q' : Option Value → cw_H → Prop}
    (C0 : lw_At p s m meth c b L xs) (hd : decode code pc = .ok (.invokevirtual idx, 3)) (hc : cw_cl[ci]? = some ((cw_y M').cls, T, N)) (hk : lw_lk idx M') (hn : cw_np M' = n) (hN : cw_isN M' = true)
    (hK : cw_K D cs s) (hap : cw_ap (fun q => s.heap.size ≤ q) ad h.length) (hP : va_P D cw_cl (cw_wd cs ad h) H) (hS : va_S (fun q => s.heap.size ≤ q) s.heap H locs) (hls : ls.size = 4) (hp : h[p1]? = some (.inr (ci, fs))) (ha : as.length = n) (hr : (rest.map fun v => v.category).sum ≤ 8) (hcs : cells ≤ 600000 ∧ slots ≤ 7302250) (hZ : cw_Z 16 M' (.ref p1 :: as) h Q')
    (kk : ∀ (r : Option Value) (h' : cw_H) (H1 : Heap) (locs1 : List Loc), Q' r h' → cw_hk h' = cw_hk h → va_P D cw_cl (cw_wd cs ad h') H1 → va_S (fun q => s.heap.size ≤ q) s.heap H1 locs1 → W p l e room_1 s m #[Value.ref b] below meth c H1 locs1 cells slots Qf (F0 m (pc + 3) ls ((r.map (cw_tr ad)).toList ++ rest))) :
    W p l e room_1 s m #[Value.ref b] below meth c H locs cells slots Qf (F0 m pc ls ((as.map (cw_tr ad)).reverse ++ .ref (ad p1) :: rest)) := by
  have hts := lw_ts C0
  obtain ⟨hx, hb, hr0, hml, hown, -, hX, hbl, hlocks, hgv⟩ := C0
  obtain ⟨h1, h2, h3⟩ := hk
  have hNN := hN
  unfold cw_isN at hNN
  simp only [Bool.and_eq_true, decide_eq_true_eq] at hNN
  have hM' : M' < 195 := hNN.1.1
  have hmx : cw_mx M' ≤ 40 := hNN.2
  have hM := (cw_snd 16).1 M' (.ref p1 :: as) h Q' hN hZ l D cs ad ⟨hap.1, fun _ _ => trivial⟩
  obtain ⟨f1, f2, f3, f4⟩ := cw_facts hM'
  have hini : Cond.initialized (cw_y M').cls ∈ cw_t := cw_init_in _ (cw_m_mem hM')
  have hgood : GoodIn cw_t (wsV R_law idx (cw_y M').cls (cw_y M') (cw_ws M')) := by
    intro w hw
    unfold wsV at hw
    rcases List.mem_append.mp hw with q | q
    · simp only [List.mem_cons, List.not_mem_nil, or_false] at q
      rcases q with rfl | rfl | rfl | rfl
      · exact ⟨h1, cw_t_good _ h1⟩
      · exact ⟨h2, cw_t_good _ h2⟩
      · exact ⟨h3, cw_t_good _ h3⟩
      · exact ⟨hini, cw_t_good _ hini⟩
    · exact cw_good hM' w q
  have hfr : 16 + 1 ≤ room_1.frames := Nat.le_of_ble_eq_true rfl
  have hlo : 8 + (cw_mx M' + 11) + 100 * 16 ≤ room_1.locals := Nat.le_trans (by omega : 8 + (cw_mx M' + 11) + 100 * 16 ≤ 1659) (Nat.le_of_ble_eq_true rfl)
  have hrun := va_runV (g := F0 m pc ls ((as.map (cw_tr ad)).reverse ++ .ref (ad p1) :: rest)) (H := H) (locs := locs) (cells := cells) (slots := slots) (below := below) (meth := meth) (e := e) (As := as.map (cw_tr ad)) (rest := rest) (b := ad p1) ⟨hx, hb, hml, hown, hts⟩ hM
    (cwV (R := room_1) (C := (cw_y M').cls) n hts hgood rfl rfl rfl ⟨rfl, f2, f3, by rw [f4, hn]⟩ ⟨hfr, hlo⟩)
    ⟨cw_blind, va_recv hK.1 hP hc (cw_wd_get hp), (cw_pre hK hP (as := .ref p1 :: as)).2⟩ rfl (by rw [List.length_map]; exact ha) hls
    rfl (by show 2 * 0 + _ ≤ 8; omega) hd ⟨hcs.1, hcs.2⟩
  exact cw_cont hrun hS (fun q hq => by obtain ⟨i, hi, rfl⟩ := hq; rw [cw_hk_len] at hi; exact hap.2 i hi) (fun r1 h' H1 locs1 hQ hh' hP1 hS1 => kk r1 h' H1 locs1 hQ hh' hP1 hS1)
/-- the law calls a constructor -/
theorem lw_callI {pc idx M' p1 : Nat} {Q' : Option Value → cw_H → Prop}
    (C0 : lw_At p s m meth c b L xs) (hd : decode code pc = .ok (.invokespecial idx, 3)) (hk : lw_li idx M') (hn : cw_np M' = 0) (hC : cw_isC M' = true)
    (hK : cw_K D cs s) (hap : cw_ap (fun q => s.heap.size ≤ q) ad h.length) (hP : va_P D cw_cl (cw_wd cs ad h) H) (hS : va_S (fun q => s.heap.size ≤ q) s.heap H locs) (hls : ls.size = 4) (hr : (rest.map fun v => v.category).sum ≤ 8) (hcs : cells + cw_cM M' ≤ 600000 ∧ slots + cw_sM M' ≤ 7302250) (hZ : cw_Z 12 M' [.ref p1] h Q') (hQn : ∀ r g, Q' r g → r = none)
    (kk : ∀ (h' : cw_H) (ad' : Nat → Nat) (H1 : Heap) (locs1 : List Loc), Q' none h' → h.length ≤ h'.length → (∀ i, i < h.length → ad' i = ad i) → cw_ap (fun q => s.heap.size ≤ q) ad' h'.length → va_P D cw_cl (cw_wd cs ad' h') H1 → va_S (fun q => s.heap.size ≤ q) s.heap H1 locs1 → W p l e room_1 s m #[Value.ref b] below meth c H1 locs1 (cells + cw_cM M') (slots + cw_sM M') Qf (F0 m (pc + 3) ls rest)) :
    W p l e room_1 s m #[Value.ref b] below meth c H locs cells slots Qf (F0 m pc ls (.ref (ad p1) :: rest)) := by
  have hts := lw_ts C0
  obtain ⟨hx, hb, hr0, hml, hown, -, hX, hbl, hlocks, hgv⟩ := C0
  obtain ⟨h1, h2⟩ := hk
  have hNN := hC
  unfold cw_isC at hNN
  simp only [Bool.and_eq_true, decide_eq_true_eq, beq_iff_eq] at hNN
  have hM' : M' < 195 := hNN.1.1
  have hmx : cw_mx M' ≤ 40 := hNN.2
  have hM := (cw_snd 12).2 M' [.ref p1] h Q' hC hZ hQn l D cs ad H.size ⟨hap.1, fun _ _ => trivial⟩
  obtain ⟨f1, f2, f3, f4⟩ := cw_facts hM'
  have hini : Cond.initialized (cw_y M').cls ∈ cw_t := cw_init_in _ (cw_m_mem hM')
  have hpre : PreS s H (cw_PA D cs ad H.size [.ref p1] h) [.ref (ad p1)] := ⟨cw_blindA, fun U hU hW => ⟨rfl, by rw [hU], hK.warm hW, by rw [hU]; exact hP⟩⟩
  have hws : cw_ws M' = Cond.code (cw_y M') (cw_b M') (cw_mx M') none :: cw_t := by
    unfold cw_ws
    rw [cw_rt_C M' hC]
  have hfr : 12 + 1 ≤ room_1.frames := Nat.le_of_ble_eq_true rfl
  have hlo : 8 + (cw_mx M' + 11) + 100 * 12 ≤ room_1.locals := Nat.le_trans (by omega : 8 + (cw_mx M' + 11) + 100 * 12 ≤ 1259) (Nat.le_of_ble_eq_true rfl)
  have hrun : va_Run p l e room_1 s m #[Value.ref b] below meth c H locs cells slots (cw_cM M') (cw_sM M') (F0 m pc ls (.ref (ad p1) :: rest)) rest (cw_QA D cs ad h.length H.size Q' (Value.ref (ad p1) :: ([] : List Value)).toArray) (cw_AA ad h.length H.size) :=
    va_runI (As := []) (b := ad p1) ⟨hx, hb, hml, hown, hts⟩ hM
      (cwI (R := room_1) 0 hts (cw_good hM') hws rfl rfl (hts _ hini) (hts _ h1) (hts _ h2) hNN.1.2 ⟨f2, f3, by rw [f4, hn]⟩ ⟨hfr, hlo⟩)
      hpre rfl rfl hls rfl (by show 2 * 0 + _ ≤ 8; omega) hd ⟨hcs.1, hcs.2⟩
  exact cw_contA hrun hS (fun q hq => by obtain ⟨i, hi, rfl⟩ := hq; exact hap.2 i hi) (fun q hq => hq) (fun h' ad' H1 locs1 hQ hle hag' hap' hP1 hS1 => kk h' ad' H1 locs1 hQ hle hag' hap' hP1 hS1)
end
