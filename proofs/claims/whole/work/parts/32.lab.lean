/-! THE LABELLING OF A FOREST -/
def Vf (σ : cw_V) (t : Nat) : Nat → Int32 → Nat → Int32
  | 0, _ => fun _ => 0
  | f + 1, m => bif hJointB σ t m then jnF (fun _ => 0) (Vf σ t f (lfT σ t m)) (Vf σ t f (rtT σ t m)) (lwF (Vf σ t f (lfT σ t m)) (Vf σ t f (rtT σ t m)) (skT σ t)) (rwF (Vf σ t f (lfT σ t m)) (Vf σ t f (rtT σ t m)) (skT σ t)) else ssF (fun _ => 0) (σ (t + 1) (nd m)) (σ (t + 2) (nd m)) (σ (t + 3) (nd m)) (σ (t + 4) (nd m))
def UV (σ : cw_V) (t : Nat) : Int32 → Nat → Int32 := Vf σ t 9
section
variable {σ : cw_V} {t s : Nat}
theorem hJointB_f {m : Int32} (h : ¬ hJoint σ t m) : hJointB σ t m = false := by
  cases e : hJointB σ t m with
  | true => exact absurd (hJointB_iff.mp e) h
  | false => rfl
theorem Vf_j {f : Nat} {m : Int32} (h : hJoint σ t m) : Vf σ t (f + 1) m = jnF (fun _ => 0) (Vf σ t f (lfT σ t m)) (Vf σ t f (rtT σ t m)) (lwF (Vf σ t f (lfT σ t m)) (Vf σ t f (rtT σ t m)) (skT σ t)) (rwF (Vf σ t f (lfT σ t m)) (Vf σ t f (rtT σ t m)) (skT σ t)) := by
  rw [Vf, hJointB_iff.mpr h, cond_true]
theorem Vf_s {f : Nat} {m : Int32} (h : ¬ hJoint σ t m) : Vf σ t (f + 1) m = ssF (fun _ => 0) (σ (t + 1) (nd m)) (σ (t + 2) (nd m)) (σ (t + 3) (nd m)) (σ (t + 4) (nd m)) := by
  rw [Vf, hJointB_f h, cond_false]
/-- children of a joint, as the words say it -/
theorem WF.kids (hW : WF σ t s) {j : Nat} (j8 : 8 ≤ j) (j15 : j < 15) (jl : σ (t + 6) j ≠ -1) : ∃ a b, lfT σ t (nI j) = nI a ∧ rtT σ t (nI j) = nI b ∧ nodeN s (σ (t + 6)) a ∧ nodeN s (σ (t + 6)) b ∧ a ≠ b ∧ σ (t + 8) a = nI j ∧ σ (t + 8) b = nI j := by
  obtain ⟨a, b, ea, eb, r⟩ := hW.2.dn j8 j15 jl
  refine ⟨a, b, ?_, ?_, r⟩
  · unfold lfT
    rw [show nd (nI j) = j from nI_clamp (by omega), ea]
  · unfold rtT
    rw [show nd (nI j) = j from nI_clamp (by omega), eb]
theorem Vf_st (hW : WF σ t s) {ρ : Nat → Nat} (hρ : ∀ n, nodeN s (σ (t + 6)) n → (σ (t + 8) n = -1 → ρ n = 0) ∧ ∀ j, j < 15 → σ (t + 8) n = nI j → ρ n = ρ j + 1) : ∀ (q n f f' : Nat), nodeN s (σ (t + 6)) n → 7 ≤ ρ n + q → q < f → q < f' → Vf σ t f (nI n) = Vf σ t f' (nI n) := by
  intro q
  induction q with
  | zero =>
    intro n f f' hn hq hf hf'
    obtain ⟨f, rfl⟩ : ∃ z, f = z + 1 := ⟨f - 1, by omega⟩
    obtain ⟨f', rfl⟩ : ∃ z, f' = z + 1 := ⟨f' - 1, by omega⟩
    by_cases hj : hJoint σ t (nI n)
    · obtain ⟨j, j8, j15, ej, jl⟩ := hW.joint hj
      obtain ⟨a, b, ea, eb, na, nb, nab, pa_a, pa_b⟩ := hW.2.dn j8 j15 jl
      cases nI_inj (by have := hW.2.lt hn; omega) (by omega) ej
      have h1 := (hρ a na).2 n j15 pa_a
      have h2 := hW.2.depth hρ na
      omega
    · rw [Vf_s hj, Vf_s hj]
  | succ q ih =>
    intro n f f' hn hq hf hf'
    obtain ⟨f, rfl⟩ : ∃ z, f = z + 1 := ⟨f - 1, by omega⟩
    obtain ⟨f', rfl⟩ : ∃ z, f' = z + 1 := ⟨f' - 1, by omega⟩
    by_cases hj : hJoint σ t (nI n)
    · obtain ⟨j, j8, j15, ej, jl⟩ := hW.joint hj
      cases nI_inj (by have := hW.2.lt hn; omega) (by omega) ej
      obtain ⟨a, b, ea, eb, na, nb, nab, pa_a, pa_b⟩ := hW.kids j8 j15 jl
      have h1 := (hρ a na).2 n j15 pa_a
      have h2 := (hρ b nb).2 n j15 pa_b
      rw [Vf_j hj, Vf_j hj, ea, eb, ih a f f' na (by omega) (by omega) (by omega), ih b f f' nb (by omega) (by omega) (by omega)]
    · rw [Vf_s hj, Vf_s hj]
theorem UV_lab (hW : WF σ t s) : Lab σ t (UV σ t) := by
  obtain ⟨ρ, hρ⟩ := hW.2.2.2.2.2.2
  refine ⟨fun m hj => ?_, fun m hs => ?_⟩
  · obtain ⟨j, j8, j15, rfl, jl⟩ := hW.joint hj
    obtain ⟨a, b, ea, eb, na, nb, nab, pa_a, pa_b⟩ := hW.kids j8 j15 jl
    have e : UV σ t (nI j) = jnF (fun _ => 0) (Vf σ t 8 (lfT σ t (nI j))) (Vf σ t 8 (rtT σ t (nI j))) (lwF (Vf σ t 8 (lfT σ t (nI j))) (Vf σ t 8 (rtT σ t (nI j))) (skT σ t)) (rwF (Vf σ t 8 (lfT σ t (nI j))) (Vf σ t 8 (rtT σ t (nI j))) (skT σ t)) := Vf_j hj
    rw [e, ea, eb, Vf_st hW hρ 7 a 8 9 na (by omega) (by omega) (by omega), Vf_st hW hρ 7 b 8 9 nb (by omega) (by omega) (by omega)]
    exact ev9.refl
  · have hj : ¬ hJoint σ t m := fun q => absurd (Int32.lt_of_lt_of_le hs.2.2 q.1) (Int32.lt_irrefl)
    have e : UV σ t m = ssF (fun _ => 0) (σ (t + 1) (nd m)) (σ (t + 2) (nd m)) (σ (t + 3) (nd m)) (σ (t + 4) (nd m)) := Vf_s hj
    rw [e]
    exact ev9.refl
/-- it is the only one -/
theorem lab_uni (hW : WF σ t s) {U U' : Int32 → Nat → Int32} (h : Lab σ t U) (h' : Lab σ t U') {n : Nat} (hn : nodeN s (σ (t + 6)) n) : ev9 (U (nI n)) (U' (nI n)) := by
  obtain ⟨ρ, hρ⟩ := hW.2.2.2.2.2.2
  have key : ∀ q n, nodeN s (σ (t + 6)) n → 7 ≤ ρ n + q → ev9 (U (nI n)) (U' (nI n)) := by
    intro q
    induction q with
    | zero =>
      intro n hn hq
      by_cases hj : hJoint σ t (nI n)
      · obtain ⟨j, j8, j15, ej, jl⟩ := hW.joint hj
        obtain ⟨a, b, ea, eb, na, nb, nab, pa_a, pa_b⟩ := hW.2.dn j8 j15 jl
        cases nI_inj (by have := hW.2.lt hn; omega) (by omega) ej
        have h1 := (hρ a na).2 n j15 pa_a
        have h2 := hW.2.depth hρ na
        omega
      · have hs := (hW.node hn).sink hj
        exact (h.2 _ hs).trans (h'.2 _ hs).symm
    | succ q ih =>
      intro n hn hq
      by_cases hj : hJoint σ t (nI n)
      · obtain ⟨j, j8, j15, ej, jl⟩ := hW.joint hj
        cases nI_inj (by have := hW.2.lt hn; omega) (by omega) ej
        obtain ⟨a, b, ea, eb, na, nb, nab, pa_a, pa_b⟩ := hW.kids j8 j15 jl
        have h1 := (hρ a na).2 n j15 pa_a
        have h2 := (hρ b nb).2 n j15 pa_b
        have va := ih a na (by omega)
        have vb := ih b nb (by omega)
        have l1 := h.1 _ hj
        have l2 := h'.1 _ hj
        rw [ea, eb] at l1 l2
        rw [lw_congr va.six vb.six, rw_congr va.six vb.six] at l1
        exact (l1.trans (jn_congr va vb)).trans l2.symm
      · have hs := (hW.node hn).sink hj
        exact (h.2 _ hs).trans (h'.2 _ hs).symm
  exact key 7 n hn (by omega)
/-- a node's wire -/
def wrF (σ : cw_V) (t : Nat) (U : Int32 → Nat → Int32) (m : Int32) : Int32 := bif decide (lfT σ t (pof σ t m) = m) then lwF (U (lfT σ t (pof σ t m))) (U (rtT σ t (pof σ t m))) (skT σ t) else rwF (U (lfT σ t (pof σ t m))) (U (rtT σ t (pof σ t m))) (skT σ t)
/-- the wires as they are measured -/
theorem MS.wire (hW : WF σ t s) {τ : cw_V} {w : Nat} {U : Int32 → Nat → Int32} (h : MS σ τ w t (dnF σ t) (tlF σ t 15).length U) {i : Nat} (h1 : (tlF σ t 15).length ≤ i) (h2 : i < (dnF σ t).length) : τ (pp w ((dnF σ t).getD i 0)) 6 = wrF σ t U ((dnF σ t).getD i 0) := by
  obtain ⟨k, hk, ek⟩ := dn_par hW h1 h2
  have hB := dn_ok hW
  obtain ⟨n, hn, en, nn⟩ := hB.1 i h2
  have hp := pof_1 (hW.node nn)
  rw [en] at ek ⊢
  rw [hp, show (nI n).toNatClampNeg = n from nI_clamp (by omega)] at ek
  have hne : σ (t + 8) n ≠ -1 := fun e => by
    rw [e] at ek
    obtain ⟨n', a', b', _⟩ := hB.1 k (by omega)
    exact nI_ne1 (by omega) (b'.symm.trans ek)
  obtain ⟨j, j1, j2, j3, j4, j5, j6⟩ := hW.2.up nn hne
  rw [j3] at ek
  have hj : hJoint σ t ((dnF σ t).getD k 0) := by rw [ek]; exact (hJoint_nI j1 j2).mpr j4
  have hw := h.1.2.2.2 k (Nat.zero_le _) (by omega) hj
  rw [ek] at hw
  obtain ⟨a, b, ea, eb, na, nb, nab, pa_a, pa_b⟩ := hW.kids j1 j2 j4
  have epof : pof σ t (nI n) = nI j := by rw [hp, show (nI n).toNatClampNeg = n from nI_clamp (by omega), j3]
  have la := hW.2.lt na
  have lb := hW.2.lt nb
  have rawl : σ (t + 6) j = nI a := by
    unfold lfT at ea
    rw [show nd (nI j) = j from nI_clamp (by omega)] at ea
    exact ea
  have rawr : σ (t + 7) j = nI b := by
    unfold rtT at eb
    rw [show nd (nI j) = j from nI_clamp (by omega)] at eb
    exact eb
  unfold wrF
  rw [epof]
  rcases j6 with e | e
  · have : n = a := nI_inj (by omega) (by omega) (e.symm.trans rawl)
    subst this
    rw [decide_eq_true ea]
    rw [ea] at hw ⊢
    exact hw.1
  · have : n = b := nI_inj (by omega) (by omega) (e.symm.trans rawr)
    subst this
    rw [decide_eq_false (show ¬ lfT σ t (nI j) = nI n from fun z => nab (nI_inj (by omega) (by omega) (ea.symm.trans z)))]
    rw [eb] at hw ⊢
    exact hw.2
/-! places -/
def Ef (σ : cw_V) (U : Int32 → Nat → Int32) (wr : Int32 → Int32) : Nat → Int32 → (Nat → Int32) × Int64
  | 0, _ => (fun _ => 0, 0)
  | f + 1, m => bif decide (pof σ 1 m = -1) then
      (fun k => if k = 0 then movF (suF σ) (U m 0) (U m 1) else if k = 1 then movF (svF' σ) (U m 2) (U m 3) else if k = 2 then -1 else dsF (suF σ) (svF' σ) (movF (suF σ) (U m 0) (U m 1)) (movF (svF' σ) (U m 2) (U m 3)), dlF (dsF (suF σ) (svF' σ) (movF (suF σ) (U m 0) (U m 1)) (movF (svF' σ) (U m 2) (U m 3))) (U m))
    else
      (fun k => if k = 0 then movF ((Ef σ U wr f (pof σ 1 m)).1 0) (U m 0) (U m 1) else if k = 1 then movF ((Ef σ U wr f (pof σ 1 m)).1 1) (U m 2) (U m 3) else if k = 2 then wr m - dsF (movF ((Ef σ U wr f (pof σ 1 m)).1 0) (U m 0) (U m 1)) (movF ((Ef σ U wr f (pof σ 1 m)).1 1) (U m 2) (U m 3)) ((Ef σ U wr f (pof σ 1 m)).1 0) ((Ef σ U wr f (pof σ 1 m)).1 1) else (Ef σ U wr f (pof σ 1 m)).1 3 + wr m, (Ef σ U wr f (pof σ 1 m)).2 + dlF (wr m) (U m))
def eT (σ : cw_V) (U : Int32 → Nat → Int32) (m : Int32) : (Nat → Int32) × Int64 := (fun k => if k = 0 then movF (suF σ) (U m 0) (U m 1) else if k = 1 then movF (svF' σ) (U m 2) (U m 3) else if k = 2 then -1 else dsF (suF σ) (svF' σ) (movF (suF σ) (U m 0) (U m 1)) (movF (svF' σ) (U m 2) (U m 3)), dlF (dsF (suF σ) (svF' σ) (movF (suF σ) (U m 0) (U m 1)) (movF (svF' σ) (U m 2) (U m 3))) (U m))
def eC (U : Int32 → Nat → Int32) (wr : Int32 → Int32) (m : Int32) (g : (Nat → Int32) × Int64) : (Nat → Int32) × Int64 := (fun k => if k = 0 then movF (g.1 0) (U m 0) (U m 1) else if k = 1 then movF (g.1 1) (U m 2) (U m 3) else if k = 2 then wr m - dsF (movF (g.1 0) (U m 0) (U m 1)) (movF (g.1 1) (U m 2) (U m 3)) (g.1 0) (g.1 1) else g.1 3 + wr m, g.2 + dlF (wr m) (U m))
theorem eT_0 {U : Int32 → Nat → Int32} {m : Int32} : (eT σ U m).1 0 = movF (suF σ) (U m 0) (U m 1) := rfl
theorem eT_1 {U : Int32 → Nat → Int32} {m : Int32} : (eT σ U m).1 1 = movF (svF' σ) (U m 2) (U m 3) := rfl
theorem eT_2 {U : Int32 → Nat → Int32} {m : Int32} : (eT σ U m).1 2 = -1 := rfl
theorem eT_3 {U : Int32 → Nat → Int32} {m : Int32} : (eT σ U m).1 3 = dsF (suF σ) (svF' σ) (movF (suF σ) (U m 0) (U m 1)) (movF (svF' σ) (U m 2) (U m 3)) := by
  unfold eT
  dsimp only
  rw [if_neg (by decide), if_neg (by decide), if_neg (by decide)]
theorem eC_0 {U : Int32 → Nat → Int32} {wr : Int32 → Int32} {m : Int32} {g : (Nat → Int32) × Int64} : (eC U wr m g).1 0 = movF (g.1 0) (U m 0) (U m 1) := rfl
theorem eC_1 {U : Int32 → Nat → Int32} {wr : Int32 → Int32} {m : Int32} {g : (Nat → Int32) × Int64} : (eC U wr m g).1 1 = movF (g.1 1) (U m 2) (U m 3) := rfl
theorem eC_2 {U : Int32 → Nat → Int32} {wr : Int32 → Int32} {m : Int32} {g : (Nat → Int32) × Int64} : (eC U wr m g).1 2 = wr m - dsF (movF (g.1 0) (U m 0) (U m 1)) (movF (g.1 1) (U m 2) (U m 3)) (g.1 0) (g.1 1) := rfl
theorem eC_3 {U : Int32 → Nat → Int32} {wr : Int32 → Int32} {m : Int32} {g : (Nat → Int32) × Int64} : (eC U wr m g).1 3 = g.1 3 + wr m := rfl
theorem eT_d {U : Int32 → Nat → Int32} {m : Int32} : (eT σ U m).2 = dlF (dsF (suF σ) (svF' σ) (movF (suF σ) (U m 0) (U m 1)) (movF (svF' σ) (U m 2) (U m 3))) (U m) := rfl
theorem eC_d {U : Int32 → Nat → Int32} {wr : Int32 → Int32} {m : Int32} {g : (Nat → Int32) × Int64} : (eC U wr m g).2 = g.2 + dlF (wr m) (U m) := rfl
theorem Ef_t {U : Int32 → Nat → Int32} {wr : Int32 → Int32} {f : Nat} {m : Int32} (h : pof σ 1 m = -1) : Ef σ U wr (f + 1) m = eT σ U m := by
  rw [Ef, decide_eq_true h, cond_true]
  rfl
theorem Ef_c {U : Int32 → Nat → Int32} {wr : Int32 → Int32} {f : Nat} {m : Int32} (h : ¬ pof σ 1 m = -1) : Ef σ U wr (f + 1) m = eC U wr m (Ef σ U wr f (pof σ 1 m)) := by
  rw [Ef, decide_eq_false h, cond_false]
  rfl
theorem Ef_st (hW : WF σ 1 s) {U : Int32 → Nat → Int32} {wr : Int32 → Int32} {ρ : Nat → Nat} (hρ : ∀ n, nodeN s (σ (1 + 6)) n → (σ (1 + 8) n = -1 → ρ n = 0) ∧ ∀ j, j < 15 → σ (1 + 8) n = nI j → ρ n = ρ j + 1) : ∀ (q n f f' : Nat), nodeN s (σ (1 + 6)) n → ρ n ≤ q → q < f → q < f' → Ef σ U wr f (nI n) = Ef σ U wr f' (nI n) := by
  intro q
  induction q with
  | zero =>
    intro n f f' hn hq hf hf'
    obtain ⟨f, rfl⟩ : ∃ z, f = z + 1 := ⟨f - 1, by omega⟩
    obtain ⟨f', rfl⟩ : ∃ z, f' = z + 1 := ⟨f' - 1, by omega⟩
    have hlt := hW.2.lt hn
    by_cases hp : σ (1 + 8) n = -1
    · have e : pof σ 1 (nI n) = -1 := by rw [pof_1 (hW.node hn), nI_clamp (by omega), hp]
      rw [Ef_t e, Ef_t e]
    · obtain ⟨j, j1, j2, j3, _⟩ := hW.2.up hn hp
      have := (hρ n hn).2 j j2 j3
      omega
  | succ q ih =>
    intro n f f' hn hq hf hf'
    obtain ⟨f, rfl⟩ : ∃ z, f = z + 1 := ⟨f - 1, by omega⟩
    obtain ⟨f', rfl⟩ : ∃ z, f' = z + 1 := ⟨f' - 1, by omega⟩
    have hlt := hW.2.lt hn
    by_cases hp : σ (1 + 8) n = -1
    · have e : pof σ 1 (nI n) = -1 := by rw [pof_1 (hW.node hn), nI_clamp (by omega), hp]
      rw [Ef_t e, Ef_t e]
    · obtain ⟨j, j1, j2, j3, j4, j5, j6⟩ := hW.2.up hn hp
      have := (hρ n hn).2 j j2 j3
      have e : pof σ 1 (nI n) = nI j := by rw [pof_1 (hW.node hn), nI_clamp (by omega), j3]
      have ne : ¬ pof σ 1 (nI n) = -1 := by rw [e]; exact nI_ne1 (by omega)
      rw [Ef_c ne, Ef_c ne, e, ih j f f' j5 (by omega) (by omega) (by omega)]
def EV (σ : cw_V) (U : Int32 → Nat → Int32) (wr : Int32 → Int32) (m : Int32) : Nat → Int32 := (Ef σ U wr 9 m).1
def EVd (σ : cw_V) (U : Int32 → Nat → Int32) (wr : Int32 → Int32) (m : Int32) : Int64 := (Ef σ U wr 9 m).2
theorem EV_lab (hW : WF σ 1 s) {U : Int32 → Nat → Int32} {wr : Int32 → Int32} {n : Nat} (hn : nodeN s (σ (1 + 6)) n) (hp : σ (1 + 8) n = -1) : PLab σ U wr (nI n) (EV σ U wr) (EVd σ U wr) := by
  obtain ⟨ρ, hρ⟩ := hW.2.2.2.2.2.2
  have hlt := hW.2.lt hn
  have e : pof σ 1 (nI n) = -1 := by rw [pof_1 (hW.node hn), nI_clamp (by omega), hp]
  refine ⟨?_, fun m hm hpm => ?_⟩
  · unfold EV EVd
    rw [Ef_t e, eT_0, eT_1, eT_2, eT_3, eT_d]
    exact ⟨rfl, rfl, rfl, rfl, rfl⟩
  · obtain ⟨n', hn', rfl, nn⟩ := hW.nn hm
    rw [pof_1 hm, nI_clamp (by omega)] at hpm
    obtain ⟨j, j1, j2, j3, j4, j5, j6⟩ := hW.2.up nn hpm
    have e2 : pof σ 1 (nI n') = nI j := by rw [pof_1 hm, nI_clamp (by omega), j3]
    have hd := hW.2.depth hρ j5
    have st := Ef_st hW (U := U) (wr := wr) hρ 7 j 8 9 j5 hd (by omega) (by omega)
    have ne : ¬ pof σ 1 (nI n') = -1 := by rw [e2]; exact nI_ne1 (by omega)
    have eu : Ef σ U wr 9 (nI n') = eC U wr (nI n') (Ef σ U wr 9 (nI j)) := by rw [Ef_c ne, e2, st]
    rw [e2]
    unfold EV EVd
    rw [eu, eC_0, eC_1, eC_2, eC_3, eC_d]
    exact ⟨rfl, rfl, rfl, rfl, rfl⟩
end
