/-! EQUAL TREES: what is computed of them is equal -/
theorem nd_lt15 {m : Int32} (h1 : 0 ≤ m) (h2 : m < 15) : nd m < 15 := by
  have h := i_in15 (Int32.not_lt.mpr h1) h2
  unfold cw_in at h
  simp only [Bool.and_eq_true, decide_eq_true_eq] at h
  exact h.2
theorem nd_lt8 {m : Int32} (h1 : 0 ≤ m) (h2 : m < 8) : nd m < 8 := by
  have h := i_in8 (Int32.not_lt.mpr h1) h2
  unfold cw_in at h
  simp only [Bool.and_eq_true, decide_eq_true_eq] at h
  exact h.2
section
variable {σ τ : cw_V} {t u s : Nat}
theorem TE.e8 (h : TE τ t σ u) : τ t 8 = σ u 8 := h.2.2 8 (by decide) (by decide)
theorem TE.e9 (h : TE τ t σ u) : τ t 9 = σ u 9 := h.2.2 9 (by decide) (by decide)
theorem TE.lo (h : TE τ t σ u) {i j : Nat} (h1 : 1 ≤ i) (h5 : i ≤ 5) (hj : j < 8) : τ (t + i) j = σ (u + i) j := h.1 i h1 h5 j hj
theorem TE.hi (h : TE τ t σ u) {i j : Nat} (h1 : 6 ≤ i) (h5 : i ≤ 8) (hj : j < 15) : τ (t + i) j = σ (u + i) j := h.2.1 i h1 h5 j hj
theorem TE.symm (h : TE τ t σ u) : TE σ u τ t := ⟨fun i a b j c => (h.1 i a b j c).symm, fun i a b j c => (h.2.1 i a b j c).symm, fun k a b => (h.2.2 k a b).symm⟩
theorem TE.trans {υ : cw_V} {v : Nat} (h : TE τ t σ u) (h' : TE σ u υ v) : TE τ t υ v := ⟨fun i a b j c => (h.1 i a b j c).trans (h'.1 i a b j c), fun i a b j c => (h.2.1 i a b j c).trans (h'.2.1 i a b j c), fun k a b => (h.2.2 k a b).trans (h'.2.2 k a b)⟩
theorem TE.rf : TE σ u σ u := ⟨fun _ _ _ _ _ => rfl, fun _ _ _ _ _ => rfl, fun _ _ _ => rfl⟩
theorem SR.te (h : SR σ τ t) : TE τ t σ t := ⟨fun i _ b j _ => congrFun (h i (by omega)) j, fun i _ b j _ => congrFun (h i b) j, fun k _ _ => congrFun h.z k⟩
theorem TE.nB (h : TE τ t σ u) {m : Int32} : hNodeB τ t m = hNodeB σ u m := by
  unfold hNodeB
  rw [h.e8]
  by_cases c : 0 ≤ m ∧ m < 15
  · rw [h.hi (i := 6) (by decide) (by decide) (nd_lt15 c.1 c.2)]
  · have e : (decide (0 ≤ m) && decide (m < 15)) = false := by
      rw [← Bool.decide_and]
      exact decide_eq_false c
    rw [e, Bool.false_and, Bool.false_and]
theorem TE.jB (h : TE τ t σ u) {m : Int32} : hJointB τ t m = hJointB σ u m := by
  unfold hJointB
  by_cases c : 8 ≤ m ∧ m < 15
  · rw [h.hi (i := 6) (by decide) (by decide) (nd_lt15 (Int32.not_lt.mp (i_ge0 c.1)) c.2)]
  · have e : (decide (8 ≤ m) && decide (m < 15)) = false := by
      rw [← Bool.decide_and]
      exact decide_eq_false c
    rw [e, Bool.false_and, Bool.false_and]
theorem TE.node (h : TE τ t σ u) {m : Int32} : hNode τ t m ↔ hNode σ u m := by rw [← hNodeB_iff, h.nB, hNodeB_iff]
theorem TE.joint (h : TE τ t σ u) {m : Int32} : hJoint τ t m ↔ hJoint σ u m := by rw [← hJointB_iff, h.jB, hJointB_iff]
theorem TE.sink (h : TE τ t σ u) {m : Int32} : hSink τ t m ↔ hSink σ u m := by unfold hSink; rw [h.e8]
theorem TE.po (h : TE τ t σ u) {m : Int32} : pof τ t m = pof σ u m := by
  unfold pof
  rw [h.nB]
  cases e : hNodeB σ u m with
  | false => rfl
  | true =>
    have q := hNodeB_iff.mp e
    exact h.hi (i := 8) (by decide) (by decide) (nd_lt15 q.1 q.2.1)
theorem TE.tB (h : TE τ t σ u) {n : Nat} (hn : n < 15) : topB τ t n = topB σ u n := by
  unfold topB
  rw [h.nB, h.hi (i := 8) (by decide) (by decide) hn]
theorem TE.tl (h : TE τ t σ u) : ∀ m, m ≤ 15 → tlF τ t m = tlF σ u m
  | 0, _ => rfl
  | m + 1, hm => by unfold tlF; rw [TE.tl h m (by omega), h.tB (by omega)]
theorem TE.lf (h : TE τ t σ u) {m : Int32} (hm : hJoint σ u m) : lfT τ t m = lfT σ u m := h.hi (i := 6) (by decide) (by decide) (nd_lt15 hm.node.1 hm.2.1)
theorem TE.rt (h : TE τ t σ u) {m : Int32} (hm : hJoint σ u m) : rtT τ t m = rtT σ u m := h.hi (i := 7) (by decide) (by decide) (nd_lt15 hm.node.1 hm.2.1)
theorem TE.bf (h : TE τ t σ u) : ∀ (f i : Nat) (D : List Int32), bf τ t f i D = bf σ u f i D
  | 0, _, _ => rfl
  | f + 1, i, D => by
    cases e : D[i]? with
    | none =>
      have hl : D.length ≤ i := by
        rcases Nat.lt_or_ge i D.length with z | z
        · rw [List.getElem?_eq_getElem z] at e
          cases e
        · exact z
      rw [bf_0 hl, bf_0 hl]
    | some n =>
      rw [bf_s e, bf_s e, h.jB]
      cases q : hJointB σ u n with
      | false => exact TE.bf h f (i + 1) D
      | true =>
        have q' := hJointB_iff.mp q
        have e1 : τ (t + 6) n.toNatClampNeg = σ (u + 6) n.toNatClampNeg := h.lf q'
        have e2 : τ (t + 7) n.toNatClampNeg = σ (u + 7) n.toNatClampNeg := h.rt q'
        rw [e1, e2]
        exact TE.bf h f (i + 1) _
theorem TE.dn (h : TE τ t σ u) : dnF τ t = dnF σ u := by unfold dnF; rw [h.tl 15 (by decide), h.bf]
theorem TE.sk (h : TE τ t σ u) : skT τ t = skT σ u := by unfold skT; rw [h.e9]
theorem TE.wf (h : TE τ t σ u) (hW : WF σ u s) : WF τ t s := ⟨h.e8.trans hW.1, hW.2.congr (fun _ hx => h.hi (i := 6) (by decide) (by decide) hx) (fun _ hx => h.hi (i := 7) (by decide) (by decide) hx) (fun _ hx => h.hi (i := 8) (by decide) (by decide) hx)⟩
theorem TE.nn (h : TE τ t σ u) {n : Nat} : nodeN s (τ (t + 6)) n ↔ nodeN s (σ (u + 6)) n := nodeN_congr (fun _ hx => h.hi (i := 6) (by decide) (by decide) hx)
theorem TE.lab (h : TE τ t σ u) {U : Int32 → Nat → Int32} (hU : Lab σ u U) : Lab τ t U := by
  refine ⟨fun m hm => ?_, fun m hm => ?_⟩
  · have hm' := h.joint.mp hm
    have := hU.1 m hm'
    rw [h.lf hm', h.rt hm', h.sk]
    exact this
  · have hm' := h.sink.mp hm
    have := hU.2 m hm'
    have hl := nd_lt8 hm'.1 hm'.2.2
    rw [h.lo (i := 1) (by decide) (by decide) hl, h.lo (i := 2) (by decide) (by decide) hl, h.lo (i := 3) (by decide) (by decide) hl, h.lo (i := 4) (by decide) (by decide) hl]
    exact this
theorem TE.uv (h : TE τ t σ u) (hW : WF σ u s) {n : Nat} (hn : nodeN s (σ (u + 6)) n) : ev9 (UV τ t (nI n)) (UV σ u (nI n)) := lab_uni (h.wf hW) (UV_lab (h.wf hW)) (h.lab (UV_lab hW)) (h.nn.mpr hn)
theorem TE.wr (h : TE τ t σ u) (hW : WF σ u s) {n : Nat} (hn : nodeN s (σ (u + 6)) n) (hp : σ (u + 8) n ≠ -1) : wrF τ t (UV τ t) (nI n) = wrF σ u (UV σ u) (nI n) := by
  obtain ⟨j, j8, j15, j1, j2, j3, j4⟩ := hW.2.up hn hp
  obtain ⟨a, b, ea, eb, na, nb, -, -, -⟩ := hW.kids j8 j15 j2
  have e1 : pof σ u (nI n) = nI j := (pof_n hW hn).trans j1
  have hj : hJoint σ u (nI j) := (hJoint_nI j8 j15).mpr j2
  unfold wrF
  rw [h.po, e1, h.lf hj, h.rt hj, h.sk, ea, eb, lw_congr (h.uv hW na).six (h.uv hW nb).six, rw_congr (h.uv hW na).six (h.uv hW nb).six]
theorem csL_congr {U U' : Int32 → Nat → Int32} : ∀ (l : List Int32) (a : Int32), (∀ x, x ∈ l → U x 7 = U' x 7) → csL U l a = csL U' l a
  | [], _, _ => rfl
  | x :: l, a, h => by
    unfold csL
    rw [h x List.mem_cons_self, csL_congr l _ (fun y hy => h y (List.mem_cons_of_mem _ hy))]
theorem tl_mem (hW : WF σ u s) {x : Int32} (hx : x ∈ tlF σ u 15) : ∃ n, n < 15 ∧ x = nI n ∧ nodeN s (σ (u + 6)) n ∧ σ (u + 8) n = -1 := by
  obtain ⟨i, hi, e⟩ := List.mem_iff_getElem.mp hx
  obtain ⟨n, h1, h2, h3, h4⟩ := (tl_ok hW 15 (by decide)).1 i hi
  rw [List.getD_eq_getElem?_getD, List.getElem?_eq_getElem hi, e] at h2
  exact ⟨n, h1, h2, h3, h4⟩
theorem TE.cost (h : TE τ t σ u) (hW : WF σ u s) : costOf τ t = costOf σ u := by
  unfold costOf
  rw [h.tl 15 (by decide)]
  refine csL_congr _ _ (fun x hx => ?_)
  obtain ⟨n, _, rfl, h3, _⟩ := tl_mem hW hx
  exact h.uv hW h3 7 (by decide) (by decide)
theorem foldl_congr {U U' : Int32 → Nat → Int32} {sk x : Int32} : ∀ (l : List Int32) (a : Int32 × Int32), (∀ y, y ∈ l → spanF (U x) (U y) sk = spanF (U' x) (U' y) sk) → l.foldl (fun s y => npS U sk x y s) a = l.foldl (fun s y => npS U' sk x y s) a
  | [], _, _ => by rw [List.foldl_nil, List.foldl_nil]
  | y :: l, a, h => by
    rw [List.foldl_cons, List.foldl_cons]
    have e : npS U sk x y a = npS U' sk x y a := by unfold npS; rw [h y List.mem_cons_self]
    rw [e]
    exact foldl_congr l _ (fun z hz => h z (List.mem_cons_of_mem _ hz))
theorem pr_congr {U U' : Int32 → Nat → Int32} {sk : Int32} : ∀ (l : List Int32) (a : Int32 × Int32), (∀ x y, x ∈ l → y ∈ l → spanF (U x) (U y) sk = spanF (U' x) (U' y) sk) → pr U sk l a = pr U' sk l a
  | [], _, _ => rfl
  | x :: l, a, h => by
    unfold pr
    rw [foldl_congr l a (fun y hy => h x y List.mem_cons_self (List.mem_cons_of_mem _ hy))]
    exact pr_congr l _ (fun y z hy hz => h y z (List.mem_cons_of_mem _ hy) (List.mem_cons_of_mem _ hz))
theorem TE.pr (h : TE τ t σ u) (hW : WF σ u s) {a : Int32 × Int32} : pr (UV τ t) (skT τ t) (tlF τ t 15) a = pr (UV σ u) (skT σ u) (tlF σ u 15) a := by
  rw [h.tl 15 (by decide), h.sk]
  refine pr_congr _ _ (fun x y hx hy => ?_)
  obtain ⟨n, _, rfl, h3, _⟩ := tl_mem hW hx
  obtain ⟨m, _, rfl, h3', _⟩ := tl_mem hW hy
  exact span_congr (h.uv hW h3).six (h.uv hW h3').six
end
section
variable {σ τ : cw_V} {s : Nat}
theorem TE.su (h : TE τ 1 σ 1) : suF τ = suF σ := by unfold suF; rw [h.2.2 10 (by decide) (by decide), h.2.2 11 (by decide) (by decide)]
theorem TE.sv (h : TE τ 1 σ 1) : svF' τ = svF' σ := by unfold svF'; rw [h.2.2 10 (by decide) (by decide), h.2.2 11 (by decide) (by decide)]
theorem TE.ef (h : TE τ 1 σ 1) (hW : WF σ 1 s) : ∀ (f n : Nat), nodeN s (σ (1 + 6)) n → Ef τ (UV τ 1) (wrF τ 1 (UV τ 1)) f (nI n) = Ef σ (UV σ 1) (wrF σ 1 (UV σ 1)) f (nI n) := by
  intro f
  induction f with
  | zero =>
    intro n hn
    rw [Ef, Ef]
  | succ f ih =>
    intro n hn
    have e := h.uv hW hn
    have e0 := e 0 (by decide) (by decide)
    have e1 := e 1 (by decide) (by decide)
    have e2 := e 2 (by decide) (by decide)
    have e3 := e 3 (by decide) (by decide)
    by_cases c : pof σ 1 (nI n) = -1
    · rw [Ef_t c, Ef_t (h.po.trans c)]
      unfold eT
      rw [h.su, h.sv, e0, e1, e2, e3, dl_congr e]
    · have hp : σ (1 + 8) n ≠ -1 := fun z => c ((pof_n hW hn).trans z)
      obtain ⟨j, j8, j15, j1, j2, j3, j4⟩ := hW.2.up hn hp
      have ep : pof σ 1 (nI n) = nI j := (pof_n hW hn).trans j1
      rw [Ef_c c, Ef_c (fun z => c (h.po.symm.trans z)), h.po, ep, ih j j3]
      unfold eC
      rw [h.wr hW hn hp, e0, e1, e2, e3, dl_congr e]
theorem TE.ev (h : TE τ 1 σ 1) (hW : WF σ 1 s) {n : Nat} (hn : nodeN s (σ (1 + 6)) n) : Ev τ (nI n) = Ev σ (nI n) := by
  unfold Ev EV
  rw [h.ef hW 9 n hn]
theorem TE.evd (h : TE τ 1 σ 1) (hW : WF σ 1 s) {n : Nat} (hn : nodeN s (σ (1 + 6)) n) : Evd τ (nI n) = Evd σ (nI n) := by
  unfold Evd EVd
  rw [h.ef hW 9 n hn]
theorem TE.ar (h : TE τ 1 σ 1) (hW : WF σ 1 s) {k : Nat} (hk : k < s) : arE τ k = arE σ k := by
  have h8 := hW.2.1
  unfold arE
  rw [h.ev hW (Or.inl hk), h.lo (i := 3) (by decide) (by decide) (by omega)]
theorem TE.vr {t u : Nat} (h : TE τ t σ u) (h8 : s ≤ 8) (hV : VR σ u s) : VR τ t s := by
  obtain ⟨v1, v2, v3, v4⟩ := hV
  refine ⟨fun k hk => ?_, ?_, ?_, ?_⟩
  · rw [h.lo (i := 1) (by decide) (by decide) (by omega), h.lo (i := 2) (by decide) (by decide) (by omega), h.lo (i := 3) (by decide) (by decide) (by omega), h.lo (i := 4) (by decide) (by decide) (by omega)]
    exact v1 k hk
  · rw [h.e9]; exact v2
  · rw [h.2.2 10 (by decide) (by decide)]; exact v3
  · rw [h.2.2 11 (by decide) (by decide)]; exact v4
end
