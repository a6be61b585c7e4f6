/-! THE LEAST COST: one list of trees, in two orders -/
section
variable {C : TT → Int32}
def lst (C : TT → Int32) : Nat → Nat → TT → List Int32
  | 0, _, T => [C T]
  | r + 1, k, T => (asc k).flatMap (fun n => lst C r (k + 1) (insT k n T))
theorem gw_lst : ∀ (r k : Nat) (T : TT) (a : Int32 × Int32), gw C r k T a = (lst C r k T).foldl cnt a := by
  intro r
  induction r with
  | zero => intro k T a; rfl
  | succ r ih =>
    intro k T a
    show (asc k).foldl (fun a n => gw C r (k + 1) (insT k n T) a) a = ((asc k).flatMap (fun n => lst C r (k + 1) (insT k n T))).foldl cnt a
    rw [List.foldl_flatMap]
    have e : (fun (a : Int32 × Int32) (n : Nat) => gw C r (k + 1) (insT k n T) a) = fun a n => (lst C r (k + 1) (insT k n T)).foldl cnt a := by
      funext a n
      exact ih (k + 1) (insT k n T) a
    rw [e]
def rwN (p : Nat) : Nat := if p % 2 = 1 then (p + 1) / 2 else if p = 0 then 0 else 7 + p / 2
/-- the tree of a code -/
def dcT : Nat → Nat → Nat → TT → TT
  | 0, _, _, T => T
  | r + 1, k, c, T => dcT r (k + 1) (c / (2 * k - 1)) (insT k (rwN (c % (2 * k - 1))) T)
def pcN : Nat → Nat → Nat
  | 0, _ => 1
  | r + 1, k => (2 * k - 1) * pcN r (k + 1)
theorem fm_congr {α β : Type} {f g : α → List β} : ∀ (l : List α), (∀ x, x ∈ l → f x = g x) → l.flatMap f = l.flatMap g
  | [], _ => rfl
  | x :: l, h => by rw [List.flatMap_cons, List.flatMap_cons, h x List.mem_cons_self, fm_congr l (fun y hy => h y (List.mem_cons_of_mem _ hy))]
theorem fm_perm {α β : Type} {f g : α → List β} : ∀ (l : List α), (∀ x, x ∈ l → List.Perm (f x) (g x)) → List.Perm (l.flatMap f) (l.flatMap g)
  | [], _ => List.Perm.refl _
  | x :: l, h => by
    rw [List.flatMap_cons, List.flatMap_cons]
    exact (h x List.mem_cons_self).append (fm_perm l (fun y hy => h y (List.mem_cons_of_mem _ hy)))
theorem fm_app {α β : Type} {f g : α → List β} : ∀ (l : List α), List.Perm (l.flatMap f ++ l.flatMap g) (l.flatMap (fun x => f x ++ g x))
  | [] => List.Perm.refl _
  | x :: l => by
    rw [List.flatMap_cons, List.flatMap_cons, List.flatMap_cons]
    have ih := fm_app (f := f) (g := g) l
    have h1 : List.Perm (f x ++ l.flatMap f ++ (g x ++ l.flatMap g)) (f x ++ (g x ++ (l.flatMap f ++ l.flatMap g))) := by
      rw [List.append_assoc]
      refine List.Perm.append_left (f x) ?_
      rw [← List.append_assoc, ← List.append_assoc]
      exact List.Perm.append_right _ List.perm_append_comm
    refine h1.trans ?_
    rw [List.append_assoc]
    exact List.Perm.append_left _ (List.Perm.append_left _ ih)
theorem fm_one {α β : Type} {g : α → β} : ∀ (l : List α), l.flatMap (fun x => [g x]) = l.map g
  | [] => rfl
  | x :: l => by rw [List.flatMap_cons, fm_one l]; rfl
theorem perm_range {β : Type} {f : Nat → β} {N : Nat} : ∀ M, List.Perm ((List.range (N * M)).map f) ((List.range N).flatMap (fun p => (List.range M).map (fun q => f (p + N * q)))) := by
  intro M
  induction M with
  | zero =>
    rw [Nat.mul_zero]
    have : ∀ (l : List Nat), l.flatMap (fun p => (List.range 0).map (fun q => f (p + N * q))) = [] := by
      intro l
      induction l with
      | nil => rfl
      | cons x l ih => rw [List.flatMap_cons, ih]; rfl
    rw [this]
    exact List.Perm.refl _
  | succ M ih =>
    rw [Nat.mul_succ, List.range_add, List.map_append]
    refine (List.Perm.append_right _ ih).trans ?_
    have e : ((List.range N).map (N * M + ·)).map f = (List.range N).flatMap (fun p => [f (p + N * M)]) := by
      rw [fm_one, List.map_map]
      refine List.map_congr_left (fun x _ => ?_)
      show f (N * M + x) = f (x + N * M)
      rw [Nat.add_comm]
    rw [e]
    refine (fm_app _).trans ?_
    rw [fm_congr (List.range N) (f := fun p => (List.range M).map (fun q => f (p + N * q)) ++ [f (p + N * M)]) (g := fun p => (List.range (M + 1)).map (fun q => f (p + N * q)))]
    intro p _
    rw [List.range_succ, List.map_append]
    rfl
theorem rw_asc {k : Nat} (h1 : 1 ≤ k) (h5 : k ≤ 5) : List.Perm ((List.range (2 * k - 1)).map rwN) (asc k) := by
  rcases (show k = 1 ∨ k = 2 ∨ k = 3 ∨ k = 4 ∨ k = 5 by omega) with rfl | rfl | rfl | rfl | rfl <;> decide
theorem perm_dc : ∀ (r k : Nat) (T : TT), k + r ≤ 6 → 1 ≤ k → List.Perm ((List.range (pcN r k)).map (fun i => C (dcT r k i T))) (lst C r k T) := by
  intro r
  induction r with
  | zero => intro k T _ _; exact List.Perm.refl _
  | succ r ih =>
    intro k T hk h1
    have hN : 0 < 2 * k - 1 := by omega
    show List.Perm ((List.range ((2 * k - 1) * pcN r (k + 1))).map (fun i => C (dcT r (k + 1) (i / (2 * k - 1)) (insT k (rwN (i % (2 * k - 1))) T)))) ((asc k).flatMap (fun n => lst C r (k + 1) (insT k n T)))
    refine (perm_range (pcN r (k + 1))).trans ?_
    rw [fm_congr (List.range (2 * k - 1)) (g := fun p => (List.range (pcN r (k + 1))).map (fun q => C (dcT r (k + 1) q (insT k (rwN p) T)))) (fun p hp => ?_)]
    · refine (fm_perm _ (g := fun p => lst C r (k + 1) (insT k (rwN p) T)) (fun p _ => ih (k + 1) (insT k (rwN p) T) (by omega) (by omega))).trans ?_
      have e : (List.range (2 * k - 1)).flatMap (fun p => lst C r (k + 1) (insT k (rwN p) T)) = ((List.range (2 * k - 1)).map rwN).flatMap (fun n => lst C r (k + 1) (insT k n T)) := by
        rw [List.flatMap_map]
      rw [e]
      exact List.Perm.flatMap_right _ (rw_asc h1 (by omega))
    · have hp' : p < 2 * k - 1 := List.mem_range.mp hp
      refine List.map_congr_left (fun q _ => ?_)
      rw [Nat.add_mul_div_left _ _ hN, Nat.div_eq_of_lt hp', Nat.zero_add, Nat.add_mul_mod_self_left, Nat.mod_eq_of_lt hp']
/-- the least of a list, and how often it is there -/
def Rep (l : List Int32) (a : Int32 × Int32) : Prop := a.1 ∈ l ∧ (∀ x, x ∈ l → a.1 ≤ x) ∧ a.2 = nI (l.count a.1)
theorem Rep.pos {l : List Int32} {a : Int32 × Int32} (h : Rep l a) (hl : l.length < 2147483647) : a.2 ≠ 0 := by
  intro z
  have h1 := h.2.2
  have hp : 0 < l.count a.1 := List.count_pos_iff.mpr h.1
  have hle : l.count a.1 ≤ l.length := List.count_le_length
  have := nI_inj (a := l.count a.1) (b := 0) (by omega) (by omega) (h1.symm.trans z)
  omega
theorem Rep.step {l : List Int32} {a : Int32 × Int32} {c : Int32} (h : Rep l a) (hl : l.length < 2147483647) : Rep (l ++ [c]) (cnt a c) := by
  have hp := h.pos hl
  obtain ⟨h1, h2, h3⟩ := h
  unfold cnt
  by_cases z : c < a.1
  · rw [if_pos (Or.inr z)]
    refine ⟨List.mem_append_right _ (List.mem_cons_self), fun x hx => ?_, ?_⟩
    · rcases List.mem_append.mp hx with q | q
      · exact Int32.le_trans (Int32.le_of_lt z) (h2 x q)
      · rw [List.mem_singleton.mp q]; exact Int32.le_refl _
    · have hc : l.count c = 0 := List.count_eq_zero.mpr (fun q => absurd z (Int32.not_lt.mpr (h2 c q)))
      show (1 : Int32) = nI ((l ++ [c]).count c)
      rw [List.count_append, hc, List.count_singleton_self]
      rfl
  · rw [if_neg (fun q => q.elim hp z)]
    by_cases w : c = a.1
    · rw [if_pos w]
      refine ⟨List.mem_append_left _ h1, fun x hx => ?_, ?_⟩
      · rcases List.mem_append.mp hx with q | q
        · exact h2 x q
        · rw [List.mem_singleton.mp q, w]; exact Int32.le_refl _
      · show a.2 + 1 = nI ((l ++ [c]).count a.1)
        rw [List.count_append, w, List.count_singleton_self, h3, nI_1]
    · rw [if_neg w]
      refine ⟨List.mem_append_left _ h1, fun x hx => ?_, ?_⟩
      · rcases List.mem_append.mp hx with q | q
        · exact h2 x q
        · rw [List.mem_singleton.mp q]; exact Int32.not_lt.mp z
      · have hc : List.count a.1 [c] = 0 := List.count_eq_zero.mpr (fun q => w (List.mem_singleton.mp q).symm)
        rw [List.count_append, hc, Nat.add_zero]
        exact h3
theorem rep_fold : ∀ (l l0 : List Int32) (a : Int32 × Int32), Rep l0 a → (l0 ++ l).length < 2147483647 → Rep (l0 ++ l) (l.foldl cnt a) := by
  intro l
  induction l with
  | nil => intro l0 a h _; rw [List.append_nil]; exact h
  | cons c l ih =>
    intro l0 a h hl
    rw [List.length_append, List.length_cons] at hl
    have := ih (l0 ++ [c]) (cnt a c) (h.step (by omega)) (by rw [List.length_append, List.length_append]; show l0.length + 1 + l.length < _; omega)
    rw [List.append_assoc] at this
    exact this
theorem rep_all {l : List Int32} {x : Int32} (hn : l ≠ []) (hl : l.length < 2147483647) : Rep l (l.foldl cnt (x, 0)) := by
  cases l with
  | nil => exact absurd rfl hn
  | cons c l =>
    have h : Rep [c] (c, 1) := ⟨List.mem_cons_self, fun y hy => by rw [List.mem_singleton.mp hy]; exact Int32.le_refl _, by show (1 : Int32) = nI (List.count c [c]); rw [List.count_singleton_self]; rfl⟩
    have e : cnt (x, 0) c = (c, 1) := if_pos (Or.inl rfl)
    have := rep_fold l [c] (c, 1) h hl
    rw [← e] at this
    exact this
theorem Rep.uni {l l' : List Int32} {a a' : Int32 × Int32} (h : Rep l a) (h' : Rep l' a') (p : List.Perm l l') : a = a' := by
  have e1 : a.1 = a'.1 := Int32.le_antisymm (h.2.1 _ (p.mem_iff.mpr h'.1)) (h'.2.1 _ (p.mem_iff.mp h.1))
  have e2 : a.2 = a'.2 := by rw [h.2.2, h'.2.2, p.count_eq, e1]
  exact Prod.ext e1 e2
theorem pc_le {s : Nat} (h1 : 1 ≤ s) (h6 : s ≤ 6) : 1 ≤ pcN (s - 1) 1 ∧ pcN (s - 1) 1 ≤ 945 := by
  rcases (show s = 1 ∨ s = 2 ∨ s = 3 ∨ s = 4 ∨ s = 5 ∨ s = 6 by omega) with rfl | rfl | rfl | rfl | rfl | rfl <;> decide
/-- the first codes -/
def mfC (C : TT → Int32) (s i : Nat) : Int32 × Int32 := ((List.range i).map (fun c => C (dcT (s - 1) 1 c T0))).foldl cnt (0, 0)
theorem mf_s {s i : Nat} : mfC C s (i + 1) = cnt (mfC C s i) (C (dcT (s - 1) 1 i T0)) := by
  unfold mfC
  rw [List.range_succ, List.map_append, List.foldl_append]
  rfl
theorem mf_pos {s i : Nat} (h : 0 < i) (hi : i ≤ 945) : (mfC C s i).2 ≠ 0 := by
  have hl : ((List.range i).map (fun c => C (dcT (s - 1) 1 c T0))).length = i := by rw [List.length_map, List.length_range]
  exact (rep_all (x := 0) (fun z => by rw [z] at hl; exact absurd hl (by simp; omega)) (by rw [hl]; omega)).pos (by rw [hl]; omega)
theorem least_eq {s : Nat} (h1 : 1 ≤ s) (h6 : s ≤ 6) (x : Int32) : gw C (s - 1) 1 T0 (x, 0) = mfC C s (pcN (s - 1) 1) := by
  obtain ⟨p1, p2⟩ := pc_le h1 h6
  have hp := perm_dc (C := C) (s - 1) 1 T0 (by omega) (by omega)
  have hl : ((List.range (pcN (s - 1) 1)).map (fun c => C (dcT (s - 1) 1 c T0))).length = pcN (s - 1) 1 := by rw [List.length_map, List.length_range]
  have hl2 := hp.length_eq
  rw [hl] at hl2
  rw [gw_lst]
  refine Rep.uni (rep_all (x := x) (fun z => ?_) (by omega)) (rep_all (x := 0) (fun z => ?_) (by rw [hl]; omega)) hp.symm
  · rw [z] at hl2; simp at hl2; omega
  · rw [z] at hl; simp at hl; omega
/-! trees that grow -/
def SH (s k : Nat) (T : TT) : Prop := WFt s T.1 T.2.1 T.2.2 ∧ (∀ n, 8 ≤ n → n < 15 → (T.1 n ≠ -1 ↔ n < 7 + k)) ∧ ∀ n, k ≤ n → n < s → T.2.2 n = -1
def okN (k n : Nat) : Prop := n < k ∨ (8 ≤ n ∧ n < 7 + k)
theorem SH.node {s k n : Nat} {T : TT} (h : SH s k T) (hk : k ≤ s) (hn : okN k n) (hn15 : n < 15) : nodeN s T.1 n := by
  rcases hn with z | z
  · exact Or.inl (by omega)
  · exact Or.inr ⟨z.1, hn15, (h.2.1 n z.1 hn15).mpr z.2⟩
theorem SH.free {s k : Nat} {T : TT} (h : SH s k T) (h1 : 1 ≤ k) (h7 : k ≤ 7) : isF T.1 (7 + k) := by
  refine ⟨⟨by omega, by omega⟩, ?_, fun i h8 hi => (h.2.1 i h8 (by omega)).mpr hi⟩
  rcases Classical.em (T.1 (7 + k) = -1) with z | z
  · exact z
  · have := (h.2.1 (7 + k) (by omega) (by omega)).mp z
    omega
theorem Inr.leaf {s : Nat} {lf rt pa : Nat → Int32} {ρ : Nat → Nat} (hW : WFt s lf rt pa) (hρ : Dep s lf pa ρ) {x a : Nat} (hx : nodeN s lf x) (ha : a < 8) : Inr pa ρ x a → x = a := by
  rintro ⟨i, hi, e⟩
  cases i with
  | zero => exact e
  | succ i =>
    have := (hW.anc hρ (i + 1) x hx hi).2.2 (by omega)
    omega
theorem SH.nin {s k n : Nat} {T : TT} {ρ : Nat → Nat} (h : SH s k T) (hk : k < s) (hn : okN k n) (hn15 : n < 15) (hρ : Dep s T.1 T.2.2 ρ) : ¬ Inr T.2.2 ρ n k := fun z => by
  have h8 := h.1.1
  have := Inr.leaf h.1 hρ (h.node (by omega) hn hn15) (by omega) z
  rcases hn with q | q <;> omega
theorem SH.ins {s k n : Nat} {T : TT} (h : SH s k T) (h1 : 1 ≤ k) (hk : k < s) (hn : okN k n) (hn15 : n < 15) : SH s (k + 1) (insT k n T) := by
  have h8 := h.1.1
  obtain ⟨ρ, hρ⟩ := h.1.2.2.2.2.2
  have hj := h.free h1 (by omega)
  refine ⟨h.1.graft hj (h.node (by omega) hn hn15) (Or.inl hk) (h.2.2 k (by omega) hk) hρ (h.nin hk hn hn15 hρ), fun m m8 m15 => ?_, fun m hm hms => ?_⟩
  · have q := h.2.1 m m8 m15
    show gL T.1 (7 + k) n m ≠ -1 ↔ _
    unfold gL
    by_cases z : m = 7 + k
    · rw [if_pos z]
      exact ⟨fun _ => by omega, fun _ => nI_ne1 (by omega)⟩
    · rw [if_neg z]
      by_cases w : T.1 m = nI n
      · rw [if_pos w]
        have : T.1 m ≠ -1 := by rw [w]; exact nI_ne1 (by omega)
        have := q.mp this
        exact ⟨fun _ => by omega, fun _ => nI_ne1 (by omega)⟩
      · rw [if_neg w, q]
        omega
  · show gP T.2.2 (7 + k) n k m = -1
    unfold gP
    have : m ≠ n := fun z => by rcases hn with q | q <;> omega
    rw [if_neg (by omega), if_neg (fun z => z.elim this (by omega))]
    exact h.2.2 m (by omega) hms
theorem SH.t0 {s : Nat} (h8 : s ≤ 8) : SH s 1 T0 := ⟨WFt.none h8 (fun _ _ => rfl) (fun _ _ => rfl) (fun _ _ => rfl), fun n h1 h2 => ⟨fun z => absurd rfl z, fun z => by omega⟩, fun _ _ _ => rfl⟩
theorem rw_ok {k p : Nat} (h1 : 1 ≤ k) (hp : p < 2 * k - 1) : okN k (rwN p) := by
  unfold okN rwN
  split
  · omega
  · split <;> omega
def av (k : Nat) : Nat → Nat → List Nat
  | 0, _ => []
  | m + 1, i => if i < k ∨ (8 ≤ i ∧ i < 7 + k) then i :: av k m (i + 1) else av k m (i + 1)
theorem av_asc {k : Nat} (h1 : 1 ≤ k) (h6 : k ≤ 6) : av k 15 0 = asc k := by
  rcases (show k = 1 ∨ k = 2 ∨ k = 3 ∨ k = 4 ∨ k = 5 ∨ k = 6 by omega) with rfl | rfl | rfl | rfl | rfl | rfl <;> decide
theorem WFt.noj {s : Nat} {lf rt pa : Nat → Int32} (hW : WFt s lf rt pa) {j : Nat} (j15 : j < 15) (jn : ¬ nodeN s lf j) {x : Nat} (hx : x < 15) : lf x ≠ nI j ∧ rt x ≠ nI j := by
  have key : ∀ {q : Int32}, (q = lf x ∨ q = rt x) → q ≠ nI j := by
    intro q hq z
    by_cases h9 : x < 8 ∨ lf x = -1
    · obtain ⟨z1, z2⟩ := hW.2.1 x hx h9
      rcases hq with rfl | rfl
      · exact nI_ne1 (by omega) (z.symm.trans z1)
      · exact nI_ne1 (by omega) (z.symm.trans z2)
    · obtain ⟨u, v, eu, ev, nu, nv, -⟩ := hW.dn (j := x) (by omega) hx (fun q => h9 (Or.inr q))
      have lu := hW.lt nu
      have lv := hW.lt nv
      rcases hq with rfl | rfl
      · exact jn ((nI_inj (by omega) (by omega) (eu.symm.trans z)) ▸ nu)
      · exact jn ((nI_inj (by omega) (by omega) (ev.symm.trans z)) ▸ nv)
  exact ⟨key (Or.inl rfl), key (Or.inr rfl)⟩
end
