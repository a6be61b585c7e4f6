section
variable {p : Program} {l : Launch} {e : Env} {s : State} {m : MethodId} {below : List Frame} {meth : Method} {c : Code} {b L : Nat} {xs : Nat → Int32} {D : va_G} {cs : Nat → ClassId} {ad : Nat → Nat} {H : Heap} {locs : List Loc} {ls : Array Slot} {rest : List Value} {i : Nat}
/-- the law's locals -/
abbrev lw_lv (b i : Nat) (ad : Nat → Nat) : List (Nat × Value) := [(0, .ref b), (1, .ref (ad 0)), (2, .ref (ad 146)), (3, .int (nI i))]
theorem lw_arg {pc k cells slots : Nat} {Qf : State → Prop} (C0 : lw_At p s m meth c b L xs) (hL : L ≤ 2048) (hi : i + 4 ≤ L) (hl : lv_has ls 4 (lw_lv b i ad)) (hS : va_S (fun q => s.heap.size ≤ q) s.heap H locs) (hd : lw_dA pc k = true)
    (kk : W p l e room_1 s m #[Value.ref b] below meth c H locs cells slots Qf (F0 m (pc + 5) ls (.int (xs (i + k)) :: rest))) : W p l e room_1 s m #[Value.ref b] below meth c H locs cells slots Qf (F0 m pc ls rest) := by
  obtain ⟨hx, hb, hr0, hml, hown, -, hX, hbl, hlocks, hgv⟩ := C0
  unfold lw_dA at hd
  simp only [Bool.and_eq_true, decide_eq_true_eq] at hd
  obtain ⟨d1, d2, d3, d4, d5, d6, d7⟩ := hd
  have hk : k ≤ 3 := Nat.le_of_ble_eq_true d7
  refine lv_aload_n hx hb d1 rfl (lv_at hl 0 rfl) ?_
  refine lv_iload_n hx hb d2 rfl (lv_at hl 3 rfl) ?_
  refine lv_iconst (v := nI k) hx hb d3 d6 ?_
  refine lv_iadd hx hb d4 ?_
  rw [nI_add]
  refine va_sld hx hb hX hbl (Nat.not_le.mpr hbl) hS (nI_in (by omega) (by omega)) d5 ?_
  rw [nI_clamp (by omega)]
  exact kk
theorem lw_args {cells slots : Nat} {Qf : State → Prop} (C0 : lw_At p s m meth c b L xs) (hL : L ≤ 2048) (hi : i + 4 ≤ L) (hl : lv_has ls 4 (lw_lv b i ad)) (hS : va_S (fun q => s.heap.size ≤ q) s.heap H locs) : ∀ (ks : List Nat) (pc : Nat) (rest : List Value), lw_dS pc ks = true →
    W p l e room_1 s m #[Value.ref b] below meth c H locs cells slots Qf (F0 m (pc + 5 * ks.length) ls ((ks.map fun k => Value.int (xs (i + k))).reverse ++ rest)) → W p l e room_1 s m #[Value.ref b] below meth c H locs cells slots Qf (F0 m pc ls rest) := by
  intro ks
  induction ks with
  | nil =>
    intro pc rest _ kk
    exact kk
  | cons k ks ih =>
    intro pc rest hd kk
    unfold lw_dS at hd
    rw [Bool.and_eq_true] at hd
    refine lw_arg C0 hL hi hl hS hd.1 (ih (pc + 5) _ hd.2 ?_)
    rw [List.map_cons, List.reverse_cons, List.append_assoc] at kk
    rw [show pc + 5 + 5 * ks.length = pc + 5 * (k :: ks).length by rw [List.length_cons]; omega]
    exact kk
theorem lw_tr_args {ks : List Nat} : (ks.map fun k => Value.int (xs (i + k))).map (cw_tr ad) = ks.map fun k => Value.int (xs (i + k)) := by
  rw [List.map_map]
  rfl
/-- where the law goes on behind a case -/
def lw_Go (p : Program) (l : Launch) (e : Env) (s : State) (m : MethodId) (b : Nat) (below : List Frame) (meth : Method) (c : Code) (D : va_G) (cs : Nat → ClassId) (ad : Nat → Nat) (ls : Array Slot) : Prop :=
  ∀ (σ : cw_V) (lam : Nat → Int64) (H : Heap) (locs : List Loc), Inv σ lam → va_P D cw_cl (cw_wd cs ad (cw_B σ lam)) H → va_S (fun q => s.heap.size ≤ q) s.heap H locs → W p l e room_1 s m #[Value.ref b] below meth c H locs 600000 7302250 (lw_Z below #[Value.ref b] s) (F0 m 957 ls [])
theorem lw_cat {r : Option Value} : (((r.map (cw_tr ad)).toList).map fun v => v.category).sum ≤ 8 := by
  cases r with
  | none => exact Nat.zero_le _
  | some v => cases v <;> exact Nat.le_of_ble_eq_true rfl
/-- the two calls of a case -/
theorem lw_both {ks : List Nat} {p0 i1 i2 q1 q2 M M' : Nat} {R : Option Value → Option Value → cw_H → Prop} (C0 : lw_At p s m meth c b L xs) (hL : L ≤ 2048) (hi : i + 4 ≤ L) (hl : lv_has ls 4 (lw_lv b i ad)) (hK : cw_K D cs s) (hap : cw_ap (fun q => s.heap.size ≤ q) ad 175)
    (hd : lw_dH ks p0 i1 i2 q1 q2 = true) (e1 : Nat.beq (p0 + 1 + 5 * ks.length) q1 = true) (e2 : Nat.beq (q1 + 3 + 1 + 5 * ks.length) q2 = true) (k1 : lw_lk i1 M) (k2 : lw_lk i2 M') (c1 : cw_cl[8]? = some ((cw_y M).cls, TX8, 9)) (c2 : cw_cl[9]? = some ((cw_y M').cls, TX9, 45)) (n1 : cw_np M = ks.length) (n2 : cw_np M' = ks.length) (t1 : cw_isN M = true) (t2 : cw_isN M' = true)
    {σ : cw_V} {lam : Nat → Int64} (hZ : cw_Z 16 M (.ref 0 :: ks.map fun k => Value.int (xs (i + k))) (cw_B σ lam) (fun r h => cw_Z 16 M' (.ref 146 :: ks.map fun k => Value.int (xs (i + k))) h (R r)))
    (hP : va_P D cw_cl (cw_wd cs ad (cw_B σ lam)) H) (hS : va_S (fun q => s.heap.size ≤ q) s.heap H locs)
    (kk : ∀ (r r' : Option Value) (h' : cw_H) (H1 : Heap) (locs1 : List Loc), R r r' h' → va_P D cw_cl (cw_wd cs ad h') H1 → va_S (fun q => s.heap.size ≤ q) s.heap H1 locs1 → W p l e room_1 s m #[Value.ref b] below meth c H1 locs1 600000 7302250 (lw_Z below #[Value.ref b] s) (F0 m (q2 + 3) ls ((r'.map (cw_tr ad)).toList ++ ((r.map (cw_tr ad)).toList ++ [])))) :
    W p l e room_1 s m #[Value.ref b] below meth c H locs 600000 7302250 (lw_Z below #[Value.ref b] s) (F0 m p0 ls []) := by
  have hx := C0.1
  have hb := C0.2.1
  have e1 := Nat.eq_of_beq_eq_true e1
  have e2 := Nat.eq_of_beq_eq_true e2
  unfold lw_dH at hd
  simp only [Bool.and_eq_true, decide_eq_true_eq] at hd
  obtain ⟨d1, d2, d3, d4, d5, d6⟩ := hd
  refine lv_aload_n hx hb d1 rfl (lv_at hl 1 rfl) ?_
  refine lw_args C0 hL hi hl hS ks (p0 + 1) _ d2 ?_
  rw [e1]
  have g1 := lw_callV (l := l) (e := e) (below := below) (Qf := lw_Z below #[Value.ref b] s) (cells := 600000) (slots := 7302250) (rest := []) (n := ks.length) C0 d3 c1 k1 n1 t1 hK (h := cw_B σ lam) (show cw_ap (fun q => s.heap.size ≤ q) ad (cw_B σ lam).length from hap) hP hS hl.1 (p1 := 0) rfl (List.length_map _) (Nat.zero_le _) ⟨Nat.le_refl _, Nat.le_refl _⟩ hZ (fun r h1 H1 locs1 hQ hh hP1 hS1 => ?_)
  · rw [lw_tr_args] at g1
    exact g1
  · obtain ⟨hlen, fs, hrec⟩ := lw_recv hh
    refine lv_aload_n hx hb d4 rfl (lv_at hl 2 rfl) ?_
    refine lw_args C0 hL hi hl hS1 ks (q1 + 3 + 1) _ d5 ?_
    rw [e2]
    have g2 := lw_callV (l := l) (e := e) (below := below) (Qf := lw_Z below #[Value.ref b] s) (cells := 600000) (slots := 7302250) (rest := (r.map (cw_tr ad)).toList ++ []) (n := ks.length) C0 d6 c2 k2 n2 t2 hK (h := h1) (by rw [hlen]; exact hap) hP1 hS1 hl.1 (p1 := 146) hrec (List.length_map _) (by rw [List.append_nil]; exact lw_cat) ⟨Nat.le_refl _, Nat.le_refl _⟩ hQ (fun r' h2 H2 locs2 hQ2 hh2 hP2 hS2 => kk r r' h2 H2 locs2 hQ2 hP2 hS2)
    rw [lw_tr_args] at g2
    exact g2
theorem lw_case {ks : List Nat} {p0 i1 i2 q1 q2 M M' : Nat} {off : Int} (C0 : lw_At p s m meth c b L xs) (hL : L ≤ 2048) (hi : i + 4 ≤ L) (hl : lv_has ls 4 (lw_lv b i ad)) (hK : cw_K D cs s) (hap : cw_ap (fun q => s.heap.size ≤ q) ad 175)
    {σ : cw_V} {lam : Nat → Int64} (hI : Inv σ lam) (hP : va_P D cw_cl (cw_wd cs ad (cw_B σ lam)) H) (hS : va_S (fun q => s.heap.size ≤ q) s.heap H locs) (hG : lw_Go p l e s m b below meth c D cs ad ls)
    (hd : lw_dC ks p0 i1 i2 off q1 q2 = true) (k1 : lw_lk i1 M) (k2 : lw_lk i2 M') (c1 : cw_cl[8]? = some ((cw_y M).cls, TX8, 9)) (c2 : cw_cl[9]? = some ((cw_y M').cls, TX9, 45)) (n1 : cw_np M = ks.length) (n2 : cw_np M' = ks.length) (t1 : cw_isN M = true) (t2 : cw_isN M' = true)
    (hZ : SimI 16 M M' (ks.map fun k => Value.int (xs (i + k)))) :
    W p l e room_1 s m #[Value.ref b] below meth c H locs 600000 7302250 (lw_Z below #[Value.ref b] s) (F0 m p0 ls []) := by
  have hx := C0.1
  have hb := C0.2.1
  unfold lw_dC at hd
  simp only [Bool.and_eq_true, decide_eq_true_eq] at hd
  obtain ⟨d1, d2, d3, d4, d5⟩ := hd
  refine lw_both C0 hL hi hl hK hap d1 d2 d3 k1 k2 c1 c2 n1 n2 t1 t2 (hZ σ lam hI) hP hS (fun r r' h' H1 locs1 hR hP1 hS1 => ?_)
  obtain ⟨⟨v, er, er'⟩, σ', lam', eh, hI'⟩ := hR
  subst er
  subst er'
  subst eh
  exact lv_icmp_eq (tgt := 957) hx hb d4 d5 (fun _ => hG σ' lam' H1 locs1 hI' hP1 hS1) (fun z => absurd rfl z)
theorem lw_caseL {ks : List Nat} {p0 i1 i2 q1 q2 M M' : Nat} {off : Int} (C0 : lw_At p s m meth c b L xs) (hL : L ≤ 2048) (hi : i + 4 ≤ L) (hl : lv_has ls 4 (lw_lv b i ad)) (hK : cw_K D cs s) (hap : cw_ap (fun q => s.heap.size ≤ q) ad 175)
    {σ : cw_V} {lam : Nat → Int64} (hI : Inv σ lam) (hP : va_P D cw_cl (cw_wd cs ad (cw_B σ lam)) H) (hS : va_S (fun q => s.heap.size ≤ q) s.heap H locs) (hG : lw_Go p l e s m b below meth c D cs ad ls)
    (hd : lw_dL ks p0 i1 i2 off q1 q2 = true) (k1 : lw_lk i1 M) (k2 : lw_lk i2 M') (c1 : cw_cl[8]? = some ((cw_y M).cls, TX8, 9)) (c2 : cw_cl[9]? = some ((cw_y M').cls, TX9, 45)) (n1 : cw_np M = ks.length) (n2 : cw_np M' = ks.length) (t1 : cw_isN M = true) (t2 : cw_isN M' = true)
    (hZ : SimL 16 M M' (ks.map fun k => Value.int (xs (i + k)))) :
    W p l e room_1 s m #[Value.ref b] below meth c H locs 600000 7302250 (lw_Z below #[Value.ref b] s) (F0 m p0 ls []) := by
  have hx := C0.1
  have hb := C0.2.1
  unfold lw_dL at hd
  simp only [Bool.and_eq_true, decide_eq_true_eq] at hd
  obtain ⟨d1, d2, d3, d4, d5, d6⟩ := hd
  refine lw_both C0 hL hi hl hK hap d1 d2 d3 k1 k2 c1 c2 n1 n2 t1 t2 (hZ σ lam hI) hP hS (fun r r' h' H1 locs1 hR hP1 hS1 => ?_)
  obtain ⟨⟨v, er, er'⟩, σ', lam', eh, hI'⟩ := hR
  subst er
  subst er'
  subst eh
  refine W.lcmp hx hb d4 ?_
  exact lv_if_eq (tgt := 957) hx hb d5 d6 (fun _ => hG σ' lam' H1 locs1 hI' hP1 hS1) (fun z => absurd (by unfold lg_cmp; simp) z)
theorem lw_and31 (x : Int32) : 0 ≤ (x &&& 31).toInt ∧ (x &&& 31).toInt ≤ 31 := by
  have h1 : (x &&& 31).toBitVec.toNat ≤ 31 := by
    rw [Int32.toBitVec_and, BitVec.toNat_and]
    exact Nat.and_le_right
  have h2 : (x &&& 31).toInt = ((x &&& 31).toBitVec.toNat : Int) := by
    rw [← Int32.toInt_toBitVec, BitVec.toInt_eq_toNat_of_lt (by omega)]
  omega
/-- what the switch does -/
theorem lw_switch {v : Int32} (hv : 0 ≤ v.toInt ∧ v.toInt ≤ 31) (C0 : lw_At p s m meth c b L xs) (hL : L ≤ 2048) (hi : i + 4 ≤ L) (hl : lv_has ls 4 (lw_lv b i ad)) (hK : cw_K D cs s) (hap : cw_ap (fun q => s.heap.size ≤ q) ad 175)
    {σ : cw_V} {lam : Nat → Int64} (hI : Inv σ lam) (hP : va_P D cw_cl (cw_wd cs ad (cw_B σ lam)) H) (hS : va_S (fun q => s.heap.size ≤ q) s.heap H locs) (hG : lw_Go p l e s m b below meth c D cs ad ls) :
    W p l e room_1 s m #[Value.ref b] below meth c H locs 600000 7302250 (lw_Z below #[Value.ref b] s) (F0 m 32 ls [.int v]) := by
  have hx := C0.1
  have hb := C0.2.1
  rcases (show v.toInt = 0 ∨ v.toInt = 1 ∨ v.toInt = 2 ∨ v.toInt = 3 ∨ v.toInt = 4 ∨ v.toInt = 5 ∨ v.toInt = 6 ∨ v.toInt = 7 ∨ v.toInt = 8 ∨ v.toInt = 9 ∨ v.toInt = 10 ∨ v.toInt = 11 ∨ v.toInt = 12 ∨ v.toInt = 13 ∨ v.toInt = 14 ∨ v.toInt = 15 ∨ v.toInt = 16 ∨ v.toInt = 17 ∨ v.toInt = 18 ∨ v.toInt = 19 ∨ v.toInt = 20 ∨ v.toInt = 21 ∨ v.toInt = 22 ∨ v.toInt = 23 ∨ v.toInt = 24 ∨ v.toInt = 25 ∨ v.toInt = 26 ∨ v.toInt = 27 ∨ v.toInt = 28 ∨ v.toInt = 29 ∨ v.toInt = 30 ∨ v.toInt = 31 by omega) with hv | hv | hv | hv | hv | hv | hv | hv | hv | hv | hv | hv | hv | hv | hv | hv | hv | hv | hv | hv | hv | hv | hv | hv | hv | hv | hv | hv | hv | hv | hv | hv
  · refine lv_tableIn (tgt := 172) hx hb ld_32 (by rw [hv]; decide) (by rw [hv]; decide) (off := 140) (by rw [hv]; rfl) (by decide) ?_
    exact lw_case C0 hL hi hl hK hap hI hP hS hG lc_sink lk_CW_sink lk_Mo_sink rfl rfl rfl rfl rfl rfl (sim_sink (d := 0))
  · refine lv_tableIn (tgt := 205) hx hb ld_32 (by rw [hv]; decide) (by rw [hv]; decide) (off := 173) (by rw [hv]; rfl) (by decide) ?_
    exact lw_case C0 hL hi hl hK hap hI hP hS hG lc_moves lk_CW_moves lk_Mo_moves rfl rfl rfl rfl rfl rfl (sim_moves (d := 0))
  · refine lv_tableIn (tgt := 248) hx hb ld_32 (by rw [hv]; decide) (by rw [hv]; decide) (off := 216) (by rw [hv]; rfl) (by decide) ?_
    exact lw_case C0 hL hi hl hK hap hI hP hS hG lc_sets lk_CW_sets lk_Mo_sets rfl rfl rfl rfl rfl rfl (sim_sets (d := 0))
  · refine lv_tableIn (tgt := 291) hx hb ld_32 (by rw [hv]; decide) (by rw [hv]; decide) (off := 259) (by rw [hv]; rfl) (by decide) ?_
    exact lw_case C0 hL hi hl hK hap hI hP hS hG lc_skew lk_CW_skew lk_Mo_skew rfl rfl rfl rfl rfl rfl (sim_skew (d := 0))
  · refine lv_tableIn (tgt := 314) hx hb ld_32 (by rw [hv]; decide) (by rw [hv]; decide) (off := 282) (by rw [hv]; rfl) (by decide) ?_
    exact lw_case C0 hL hi hl hK hap hI hP hS hG lc_source lk_CW_source lk_Mo_source rfl rfl rfl rfl rfl rfl (sim_source (d := 0))
  · refine lv_tableIn (tgt := 347) hx hb ld_32 (by rw [hv]; decide) (by rw [hv]; decide) (off := 315) (by rw [hv]; rfl) (by decide) ?_
    exact lw_case C0 hL hi hl hK hap hI hP hS hG lc_end lk_CW_end lk_Mo_end rfl rfl rfl rfl rfl rfl (sim_end (d := 0))
  · refine lv_tableIn (tgt := 380) hx hb ld_32 (by rw [hv]; decide) (by rw [hv]; decide) (off := 348) (by rw [hv]; rfl) (by decide) ?_
    exact lw_case C0 hL hi hl hK hap hI hP hS hG lc_touched lk_CW_touched lk_Mo_touched rfl rfl rfl rfl rfl rfl (sim_touched (d := 0))
  · refine lv_tableIn (tgt := 403) hx hb ld_32 (by rw [hv]; decide) (by rw [hv]; decide) (off := 371) (by rw [hv]; rfl) (by decide) ?_
    exact lw_case C0 hL hi hl hK hap hI hP hS hG lc_at lk_CW_at lk_Mo_at rfl rfl rfl rfl rfl rfl (sim_at (d := 0))
  · refine lv_tableIn (tgt := 436) hx hb ld_32 (by rw [hv]; decide) (by rw [hv]; decide) (off := 404) (by rw [hv]; rfl) (by decide) ?_
    exact lw_case C0 hL hi hl hK hap hI hP hS hG lc_joins lk_CW_joins lk_Mo_joins rfl rfl rfl rfl rfl rfl (sim_joins (d := 0))
  · refine lv_tableIn (tgt := 469) hx hb ld_32 (by rw [hv]; decide) (by rw [hv]; decide) (off := 437) (by rw [hv]; rfl) (by decide) ?_
    exact lw_case C0 hL hi hl hK hap hI hP hS hG lc_pairs lk_CW_pairs lk_Mo_pairs rfl rfl rfl rfl rfl rfl (sim_pairs (d := 0))
  · refine lv_tableIn (tgt := 482) hx hb ld_32 (by rw [hv]; decide) (by rw [hv]; decide) (off := 450) (by rw [hv]; rfl) (by decide) ?_
    exact lw_case C0 hL hi hl hK hap hI hP hS hG lc_frees lk_CW_frees lk_Mo_frees rfl rfl rfl rfl rfl rfl (sim_frees (d := 0))
  · refine lv_tableIn (tgt := 495) hx hb ld_32 (by rw [hv]; decide) (by rw [hv]; decide) (off := 463) (by rw [hv]; rfl) (by decide) ?_
    exact lw_case C0 hL hi hl hK hap hI hP hS hG lc_cuts lk_CW_cuts lk_Mo_cuts rfl rfl rfl rfl rfl rfl (sim_cuts (d := 0))
  · refine lv_tableIn (tgt := 518) hx hb ld_32 (by rw [hv]; decide) (by rw [hv]; decide) (off := 486) (by rw [hv]; rfl) (by decide) ?_
    exact lw_case C0 hL hi hl hK hap hI hP hS hG lc_grafts lk_CW_grafts lk_Mo_grafts rfl rfl rfl rfl rfl rfl (sim_grafts (d := 0))
  · refine lv_tableIn (tgt := 551) hx hb ld_32 (by rw [hv]; decide) (by rw [hv]; decide) (off := 519) (by rw [hv]; rfl) (by decide) ?_
    exact lw_case C0 hL hi hl hK hap hI hP hS hG lc_exchanges lk_CW_exchanges lk_Mo_exchanges rfl rfl rfl rfl rfl rfl (sim_exchanges (d := 0))
  · refine lv_tableIn (tgt := 584) hx hb ld_32 (by rw [hv]; decide) (by rw [hv]; decide) (off := 552) (by rw [hv]; rfl) (by decide) ?_
    exact lw_case C0 hL hi hl hK hap hI hP hS hG lc_betters lk_CW_betters lk_Mo_betters rfl rfl rfl rfl rfl rfl (sim_betters (d := 0))
  · refine lv_tableIn (tgt := 597) hx hb ld_32 (by rw [hv]; decide) (by rw [hv]; decide) (off := 565) (by rw [hv]; rfl) (by decide) ?_
    exact lw_case C0 hL hi hl hK hap hI hP hS hG lc_node lk_CW_node lk_Mo_node rfl rfl rfl rfl rfl rfl (sim_node (d := 0))
  · refine lv_tableIn (tgt := 630) hx hb ld_32 (by rw [hv]; decide) (by rw [hv]; decide) (off := 598) (by rw [hv]; rfl) (by decide) ?_
    exact lw_case C0 hL hi hl hK hap hI hP hS hG lc_would lk_CW_would lk_Mo_would rfl rfl rfl rfl rfl rfl (sim_would (d := 0))
  · refine lv_tableIn (tgt := 673) hx hb ld_32 (by rw [hv]; decide) (by rw [hv]; decide) (off := 641) (by rw [hv]; rfl) (by decide) ?_
    exact lw_case C0 hL hi hl hK hap hI hP hS hG lc_nearest lk_CW_nearest lk_Mo_nearest rfl rfl rfl rfl rfl rfl (sim_nearest (d := 0))
  · refine lv_tableIn (tgt := 686) hx hb ld_32 (by rw [hv]; decide) (by rw [hv]; decide) (off := 654) (by rw [hv]; rfl) (by decide) ?_
    exact lw_case C0 hL hi hl hK hap hI hP hS hG lc_tops lk_CW_tops lk_Mo_tops rfl rfl rfl rfl rfl rfl (sim_tops (d := 0))
  · refine lv_tableIn (tgt := 699) hx hb ld_32 (by rw [hv]; decide) (by rw [hv]; decide) (off := 667) (by rw [hv]; rfl) (by decide) ?_
    exact lw_case C0 hL hi hl hK hap hI hP hS hG lc_least lk_CW_least lk_Mo_least rfl rfl rfl rfl rfl rfl (sim_least (d := 0))
  · refine lv_tableIn (tgt := 722) hx hb ld_32 (by rw [hv]; decide) (by rw [hv]; decide) (off := 690) (by rw [hv]; rfl) (by decide) ?_
    exact lw_case C0 hL hi hl hK hap hI hP hS hG lc_place lk_CW_place lk_Mo_place rfl rfl rfl rfl rfl rfl (sim_place (d := 0))
  · refine lv_tableIn (tgt := 755) hx hb ld_32 (by rw [hv]; decide) (by rw [hv]; decide) (off := 723) (by rw [hv]; rfl) (by decide) ?_
    exact lw_case C0 hL hi hl hK hap hI hP hS hG lc_arrival lk_CW_arrival lk_Mo_arrival rfl rfl rfl rfl rfl rfl (sim_arrival (d := 0))
  · refine lv_tableIn (tgt := 778) hx hb ld_32 (by rw [hv]; decide) (by rw [hv]; decide) (off := 746) (by rw [hv]; rfl) (by decide) ?_
    exact lw_caseL C0 hL hi hl hK hap hI hP hS hG lc_slow lk_CW_slow lk_Mo_slow rfl rfl rfl rfl rfl rfl (sim_slow (d := 0))
  · refine lv_tableIn (tgt := 802) hx hb ld_32 (by rw [hv]; decide) (by rw [hv]; decide) (off := 770) (by rw [hv]; rfl) (by decide) ?_
    exact lw_case C0 hL hi hl hK hap hI hP hS hG lc_total lk_CW_total lk_Mo_total rfl rfl rfl rfl rfl rfl (sim_total (d := 0))
  · refine lv_tableIn (tgt := 825) hx hb ld_32 (by rw [hv]; decide) (by rw [hv]; decide) (off := 793) (by rw [hv]; rfl) (by decide) ?_
    exact lw_case C0 hL hi hl hK hap hI hP hS hG lc_type lk_CW_type lk_Mo_type rfl rfl rfl rfl rfl rfl (sim_type (d := 0))
  · refine lv_tableIn (tgt := 848) hx hb ld_32 (by rw [hv]; decide) (by rw [hv]; decide) (off := 816) (by rw [hv]; rfl) (by decide) ?_
    exact lw_case C0 hL hi hl hK hap hI hP hS hG lc_clear lk_CW_clear lk_Mo_clear rfl rfl rfl rfl rfl rfl (sim_clear (d := 0))
  · refine lv_tableIn (tgt := 861) hx hb ld_32 (by rw [hv]; decide) (by rw [hv]; decide) (off := 829) (by rw [hv]; rfl) (by decide) ?_
    exact lw_case C0 hL hi hl hK hap hI hP hS hG lc_builds lk_CW_builds lk_Mo_builds rfl rfl rfl rfl rfl rfl (sim_builds (d := 0))
  · refine lv_tableIn (tgt := 874) hx hb ld_32 (by rw [hv]; decide) (by rw [hv]; decide) (off := 842) (by rw [hv]; rfl) (by decide) ?_
    exact lw_case C0 hL hi hl hK hap hI hP hS hG lc_shown lk_CW_shown lk_Mo_shown rfl rfl rfl rfl rfl rfl (sim_shown (d := 0))
  · refine lv_tableIn (tgt := 907) hx hb ld_32 (by rw [hv]; decide) (by rw [hv]; decide) (off := 875) (by rw [hv]; rfl) (by decide) ?_
    exact lw_case C0 hL hi hl hK hap hI hP hS hG lc_back lk_CW_back lk_Mo_back rfl rfl rfl rfl rfl rfl (sim_back (d := 0))
  · refine lv_tableIn (tgt := 920) hx hb ld_32 (by rw [hv]; decide) (by rw [hv]; decide) (off := 888) (by rw [hv]; rfl) (by decide) ?_
    exact lw_case C0 hL hi hl hK hap hI hP hS hG lc_told lk_CW_told lk_Mo_told rfl rfl rfl rfl rfl rfl (sim_told (d := 0))
  · refine lv_tableIn (tgt := 943) hx hb ld_32 (by rw [hv]; decide) (by rw [hv]; decide) (off := 911) (by rw [hv]; rfl) (by decide) ?_
    exact lw_caseL C0 hL hi hl hK hap hI hP hS hG lc_digest lk_CW_digest lk_Mo_digest rfl rfl rfl rfl rfl rfl (sim_digest (d := 0))
  · exact lv_tableOut hx hb ld_32 (by rw [hv]; decide) (by decide) (hG σ lam H locs hI hP hS)
theorem lw_le {a k : Nat} (ha : a ≤ 2048) (hk : k ≤ 3000) (h : ¬ nI a - 4 < nI k) : k + 4 ≤ a := by
  have h1 : (nI a - 4).toInt = (a : Int) - 4 := by
    rw [Int32.toInt_sub, nI_toInt (by omega)]
    show Int.bmod ((a : Int) - 4) (2 ^ 32) = _
    rw [Int.bmod_eq_of_le (by omega) (by omega)]
  rw [Int32.lt_iff_toInt_lt, h1, nI_toInt (by omega)] at h
  omega
theorem law_loop (C0 : lw_At p s m meth c b L xs) (hL : L ≤ 2048) (hK : cw_K D cs s) (hap : cw_ap (fun q => s.heap.size ≤ q) ad 175) :
    ∀ (n i : Nat), L + 5 ≤ i + n → i ≤ L + 4 → ∀ (σ : cw_V) (lam : Nat → Int64) (H : Heap) (locs : List Loc), Inv σ lam → va_P D cw_cl (cw_wd cs ad (cw_B σ lam)) H → va_S (fun q => s.heap.size ≤ q) s.heap H locs → ∀ (ls : Array Slot), lv_has ls 4 (lw_lv b i ad) →
      W p l e room_1 s m #[Value.ref b] below meth c H locs 600000 7302250 (lw_Z below #[Value.ref b] s) (F0 m 18 ls []) := by
  obtain ⟨hx, hb, hr, hml, hown, hts0, hX, hbl, hlocks, hgv⟩ := id C0
  have hbA : ¬ (fun q : Nat => s.heap.size ≤ q) b := Nat.not_le.mpr hbl
  intro n
  induction n with
  | zero =>
    intro i h1 h2
    exact absurd h1 (by omega)
  | succ n ih =>
    intro i hin hi4 σ lam H locs hI hP hS ls hl
    refine lv_iload_n hx hb ld_18 rfl (lv_at hl 3 rfl) ?_
    refine lv_aload_n hx hb ld_19 rfl (lv_at hl 0 rfl) ?_
    refine va_slen hx hb hX hbl hbA hS ld_20 ?_
    refine lv_iconst (v := 4) hx hb ld_21 (by decide) ?_
    refine lv_isub hx hb ld_22 ?_
    refine lv_icmp_gt (tgt := 963) hx hb ld_23 (by decide) (fun _ => ?_) (fun hc => ?_)
    · refine lv_iconst (v := 1) hx hb ld_963 (by decide) ?_
      exact va_forget (fun q hq => hS.2.2 q hq) (lw_ret hx hb hr hlocks ld_964)
    · have hi : i + 4 ≤ L := lw_le hL (by omega) hc
      refine lv_aload_n hx hb ld_26 rfl (lv_at hl 0 rfl) ?_
      refine lv_iload_n hx hb ld_27 rfl (lv_at hl 3 rfl) ?_
      refine va_sld hx hb hX hbl hbA hS (nI_in (by omega) (by omega)) ld_28 ?_
      refine lv_bipush (v := 31) hx hb ld_29 (by decide) ?_
      refine lv_iand hx hb ld_31 ?_
      refine lw_switch (lw_and31 _) C0 hL hi hl hK hap hI hP hS (fun σ' lam' H1 locs1 hI1 hP1 hS1 => ?_)
      refine lv_iinc (v := nI (i + 4)) (lv' := [(3, .int (nI (i + 4))), (0, .ref b), (1, .ref (ad 0)), (2, .ref (ad 146))]) hx hb ld_957 hl (k := 3) rfl (nI_add i 4) (by decide) rfl (fun ls' hl' => ?_)
      refine lv_goto (tgt := 18) hx hb ld_960 (by decide) ?_
      exact ih (i + 4) (by omega) (by omega) σ' lam' H1 locs1 hI1 hP1 hS1 ls' (lv_sub hl' [1, 2, 3, 0] rfl)
end
theorem hC0_len : hC0.length = 146 := by decide +kernel
set_option maxHeartbeats 4000000 in
/-- THE LAW, from its entry -/
theorem whole_start {p : Program} {e : Env} {s : State} {m : MethodId} {below : List Frame} {meth : Method} {c : Code} (l : Launch) (hflags : l.flags = flags0) {b L : Nat} {xs : Nat → Int32} (hL : L ≤ 2048) (C0 : lw_At p s m meth c b L xs) : W p l e room_1 s m #[Value.ref b] below meth c s.heap [] 0 0 (lw_Z below #[Value.ref b] s) (entryFrame m ([Value.ref b] : List Value).toArray 4) := by
  obtain ⟨hx, hb, hr, hml, hown, hts0, hX, hbl, hlocks, hgv⟩ := id C0
  have hts := lw_ts C0
  obtain ⟨D, cs, hK⟩ := lw_kinds C0
  have hA : ∀ q : Nat, s.heap.size ≤ q → (fun q : Nat => s.heap.size ≤ q) q := fun _ h => h
  have hS : va_S (fun q : Nat => s.heap.size ≤ q) s.heap s.heap [] := va_S.rf
  have hP : va_P D cw_cl [] s.heap := fun k q h => by simp at h
  have hD : va_D (fun q : Nat => s.heap.size ≤ q) [] := ⟨fun i j p q h => by simp at h, fun k q h => by simp at h⟩
  have hl := lv_entry ([.ref b]) (n := 4) (Nat.le_of_ble_eq_true rfl)
  rw [lg_entry_eq]
  generalize (lg_sl ([.ref b]) ++ List.replicate (4 - (lg_sl ([.ref b])).length) Slot.unset).toArray = ls at hl ⊢
  have hl : lv_has ls 4 [(0, .ref b)] := hl
  refine va_new (D := D) (ci := 8) (fs := [.null, .null, .null, .null, .null, .null, .int 0, .int 0, .int 0]) (C := RX8) (T := TX8) (N := 9) hx hb hts iX8 tyX8 tyX8_ok hown (hts _ lx_cl8) (hts _ lx_ins8) (hts _ lx_ini8) hK.1 hP hD hS hA rfl (fun j hj => by
    have h9 : ∀ j, j < 9 → defaultValue (tyX8 j) = vp_V [.null, .null, .null, .null, .null, .null, .int 0, .int 0, .int 0] j := by decide +kernel
    exact h9 j hj) (Nat.le_of_ble_eq_true rfl) (Nat.le_of_ble_eq_true rfl) ld_0 (fun q0 H hP hD hS => ?_)
  obtain ⟨hP, hap⟩ := cw_grow (cs := cs) (ad := fun _ => 0) (g := []) (c := obC) (q := q0) rfl rfl hP hD
  refine lv_dup hx hb ld_3 rfl ?_
  refine lw_callI (p1 := 0) (rest := [.ref q0]) C0 ld_4 lk_CW_init rfl (by decide +kernel) hK hap hP hS hl.1 (Nat.le_of_ble_eq_true rfl) ⟨Nat.le_of_ble_eq_true rfl, Nat.le_of_ble_eq_true rfl⟩ cw_C1 (fun r g q => q.1) (fun h1 ad1 H1 locs1 hQ1 _ hag1 hap1 hP1 hS1 => ?_)
  have a0 : ad1 0 = q0 := hag1 0 (by decide)
  have hP1 := heqE_P hQ1.2 hP1
  have hap1 : cw_ap (fun q => s.heap.size ≤ q) ad1 hC0.length := by rw [← hQ1.2.1]; exact hap1
  refine lv_astore_n (lv' := [(1, .ref q0), (0, .ref b)]) hx hb ld_7 rfl hl (by decide) rfl (fun ls hl => ?_)
  refine va_new (D := D) (ci := 9) (fs := [.null, .int 0, .null, .int 0, .int 0, .int 0, .int 0, .null, .null, .null, .null, .null, .null, .int 0, .null, .null, .null, .null, .null, .null, .null, .null, .null, .null, .null, .int 0, .int 0, .int 0, .int 0, .null, .null, .null, .int 0, .int 0, .null, .null, .int 0, .int 0, .null, .int 0, .int 0, .null, .int 0, .null, .null]) (C := RX9) (T := TX9) (N := 45) hx hb hts iX9 tyX9 tyX9_ok hown (hts _ lx_cl9) (hts _ lx_ins9) (hts _ lx_ini9) hK.1 hP1 (cw_ap.D hap1) hS1 hA rfl (fun j hj => by
    have h9 : ∀ j, j < 45 → defaultValue (tyX9 j) = vp_V [.null, .int 0, .null, .int 0, .int 0, .int 0, .int 0, .null, .null, .null, .null, .null, .null, .int 0, .null, .null, .null, .null, .null, .null, .null, .null, .null, .null, .null, .int 0, .int 0, .int 0, .int 0, .null, .null, .null, .int 0, .int 0, .null, .null, .int 0, .int 0, .null, .int 0, .int 0, .null, .int 0, .null, .null] j := by decide +kernel
    exact h9 j hj) (Nat.le_of_ble_eq_true rfl) (Nat.le_of_ble_eq_true rfl) ld_8 (fun q2 H2 hP2 hD2 hS2 => ?_)
  obtain ⟨hP2, hap2⟩ := cw_grow (cs := cs) (ad := ad1) (g := hC0) (c := obM) (q := q2) (by decide +kernel) rfl hP2 hD2
  refine lv_dup hx hb ld_11 rfl ?_
  have e2 : (if 146 = hC0.length then q2 else ad1 146) = q2 := by rw [hC0_len]; rfl
  have g1 := lw_callI (l := l) (e := e) (below := below) (ls := ls) (cells := 1 + cw_cM m_CW_init + 1) (slots := 9 + cw_sM m_CW_init + 45) (Qf := lw_Z below #[Value.ref b] s) (p1 := 146) (rest := [.ref q2]) C0 ld_12 lk_Mo_init rfl (by decide +kernel) hK hap2 hP2 hS2 hl.1 (Nat.le_of_ble_eq_true rfl) ⟨by decide +kernel, by decide +kernel⟩ cw_M1 (fun r g q => q.1) (fun h3 ad3 H3 locs3 hQ3 _ hag3 hap3 hP3 hS3 => ?_)
  · rw [e2] at g1
    exact g1
  have hP3 := heqE_P hQ3.2 hP3
  have hap3 : cw_ap (fun q => s.heap.size ≤ q) ad3 175 := by
    have e3 : h3.length = 175 := hQ3.2.1
    rw [e3] at hap3
    exact hap3
  have a3 : ad3 0 = q0 := by
    rw [hag3 0 (by rw [List.length_append, hC0_len]; decide)]
    show (if 0 = hC0.length then q2 else ad1 0) = q0
    rw [hC0_len]
    exact a0
  have b3 : ad3 146 = q2 := by
    rw [hag3 146 (by rw [List.length_append, hC0_len]; decide)]
    exact e2
  refine lv_astore_n (lv' := [(2, .ref q2), (1, .ref q0), (0, .ref b)]) hx hb ld_15 rfl hl (by decide) rfl (fun ls hl => ?_)
  refine lv_iconst (v := 0) hx hb ld_16 (by decide) ?_
  refine lv_istore_n (lv' := [(3, .int 0), (2, .ref q2), (1, .ref q0), (0, .ref b)]) hx hb ld_17 rfl hl (by decide) rfl (fun ls hl => ?_)
  refine W.widen (k := 600000) (n := 7302250) (Nat.le_of_ble_eq_true rfl) (Nat.le_of_ble_eq_true rfl) ?_
  refine law_loop C0 hL hK hap3 (L + 5) 0 (by omega) (by omega) sg0 lm0 H3 locs3 inv0 hP3 hS3 ls ?_
  rw [show lw_lv b 0 ad3 = [(0, .ref b), (1, .ref q0), (2, .ref q2), (3, .int 0)] by unfold lw_lv; rw [a3, b3, nI_0]]
  exact lv_sub hl [3, 2, 1, 0] rfl
