/-! THE SHAPE OF THE HEAP behind both constructors: an object (its class; of each field the place that it refers to, or none: a number), or a row (kind, length; of references: first place and step) -/
abbrev cw_Sh : Type := (Nat × List (Option Nat)) ⊕ (Nat × Nat × Nat × Nat)
def cw_hl (s : cw_Sh) (_ : Nat) : cw_Sh := s
def cw_hn (k : Nat) (a b : Nat → cw_Sh) (p : Nat) : cw_Sh := bif Nat.ble k p then b p else a p
def cw_shp : Nat → cw_Sh := cw_hn 87 (cw_hn 43 (cw_hn 21 (cw_hn 10 (cw_hn 5 (cw_hn 2 (cw_hn 1 (cw_hl (.inl (8, [some 1, some 10, some 30, some 36, some 66, some 140, none, none, none]))) (cw_hl (.inl (6, [some 2, some 3, some 4, some 5, some 6, some 7, some 8, some 9, none, none, none, none])))) (cw_hn 3 (cw_hl (.inr (0, 8, 0, 0))) (cw_hn 4 (cw_hl (.inr (0, 8, 0, 0))) (cw_hl (.inr (0, 8, 0, 0)))))) (cw_hn 7 (cw_hn 6 (cw_hl (.inr (0, 8, 0, 0))) (cw_hl (.inr (0, 8, 0, 0)))) (cw_hn 8 (cw_hl (.inr (0, 15, 0, 0))) (cw_hn 9 (cw_hl (.inr (0, 15, 0, 0))) (cw_hl (.inr (0, 15, 0, 0))))))) (cw_hn 15 (cw_hn 12 (cw_hn 11 (cw_hl (.inl (7, [some 11, some 12, some 13, some 14, none, none, none]))) (cw_hl (.inr (3, 15, 15, 1)))) (cw_hn 13 (cw_hl (.inl (2, [none, none, none, none, none, none, none, none, none, none]))) (cw_hn 14 (cw_hl (.inl (1, [none, none, none, none]))) (cw_hl (.inr (0, 15, 0, 0)))))) (cw_hn 18 (cw_hn 16 (cw_hl (.inl (2, [none, none, none, none, none, none, none, none, none, none]))) (cw_hn 17 (cw_hl (.inl (2, [none, none, none, none, none, none, none, none, none, none]))) (cw_hl (.inl (2, [none, none, none, none, none, none, none, none, none, none]))))) (cw_hn 19 (cw_hl (.inl (2, [none, none, none, none, none, none, none, none, none, none]))) (cw_hn 20 (cw_hl (.inl (2, [none, none, none, none, none, none, none, none, none, none]))) (cw_hl (.inl (2, [none, none, none, none, none, none, none, none, none, none])))))))) (cw_hn 32 (cw_hn 26 (cw_hn 23 (cw_hn 22 (cw_hl (.inl (2, [none, none, none, none, none, none, none, none, none, none]))) (cw_hl (.inl (2, [none, none, none, none, none, none, none, none, none, none])))) (cw_hn 24 (cw_hl (.inl (2, [none, none, none, none, none, none, none, none, none, none]))) (cw_hn 25 (cw_hl (.inl (2, [none, none, none, none, none, none, none, none, none, none]))) (cw_hl (.inl (2, [none, none, none, none, none, none, none, none, none, none])))))) (cw_hn 29 (cw_hn 27 (cw_hl (.inl (2, [none, none, none, none, none, none, none, none, none, none]))) (cw_hn 28 (cw_hl (.inl (2, [none, none, none, none, none, none, none, none, none, none]))) (cw_hl (.inl (2, [none, none, none, none, none, none, none, none, none, none]))))) (cw_hn 30 (cw_hl (.inl (2, [none, none, none, none, none, none, none, none, none, none]))) (cw_hn 31 (cw_hl (.inl (3, [some 31, some 32, some 33, some 34, some 35, none, none, none, none, none]))) (cw_hl (.inr (0, 15, 0, 0))))))) (cw_hn 37 (cw_hn 34 (cw_hn 33 (cw_hl (.inr (0, 15, 0, 0))) (cw_hl (.inr (0, 15, 0, 0)))) (cw_hn 35 (cw_hl (.inr (0, 15, 0, 0))) (cw_hn 36 (cw_hl (.inr (1, 15, 0, 0))) (cw_hl (.inl (4, [some 37, some 46, none, none, none])))))) (cw_hn 40 (cw_hn 38 (cw_hl (.inl (6, [some 38, some 39, some 40, some 41, some 42, some 43, some 44, some 45, none, none, none, none]))) (cw_hn 39 (cw_hl (.inr (0, 8, 0, 0))) (cw_hl (.inr (0, 8, 0, 0))))) (cw_hn 41 (cw_hl (.inr (0, 8, 0, 0))) (cw_hn 42 (cw_hl (.inr (0, 8, 0, 0))) (cw_hl (.inr (0, 8, 0, 0))))))))) (cw_hn 65 (cw_hn 54 (cw_hn 48 (cw_hn 45 (cw_hn 44 (cw_hl (.inr (0, 15, 0, 0))) (cw_hl (.inr (0, 15, 0, 0)))) (cw_hn 46 (cw_hl (.inr (0, 15, 0, 0))) (cw_hn 47 (cw_hl (.inl (7, [some 47, some 48, some 49, some 50, none, none, none]))) (cw_hl (.inr (3, 15, 51, 1)))))) (cw_hn 51 (cw_hn 49 (cw_hl (.inl (2, [none, none, none, none, none, none, none, none, none, none]))) (cw_hn 50 (cw_hl (.inl (1, [none, none, none, none]))) (cw_hl (.inr (0, 15, 0, 0))))) (cw_hn 52 (cw_hl (.inl (2, [none, none, none, none, none, none, none, none, none, none]))) (cw_hn 53 (cw_hl (.inl (2, [none, none, none, none, none, none, none, none, none, none]))) (cw_hl (.inl (2, [none, none, none, none, none, none, none, none, none, none]))))))) (cw_hn 59 (cw_hn 56 (cw_hn 55 (cw_hl (.inl (2, [none, none, none, none, none, none, none, none, none, none]))) (cw_hl (.inl (2, [none, none, none, none, none, none, none, none, none, none])))) (cw_hn 57 (cw_hl (.inl (2, [none, none, none, none, none, none, none, none, none, none]))) (cw_hn 58 (cw_hl (.inl (2, [none, none, none, none, none, none, none, none, none, none]))) (cw_hl (.inl (2, [none, none, none, none, none, none, none, none, none, none])))))) (cw_hn 62 (cw_hn 60 (cw_hl (.inl (2, [none, none, none, none, none, none, none, none, none, none]))) (cw_hn 61 (cw_hl (.inl (2, [none, none, none, none, none, none, none, none, none, none]))) (cw_hl (.inl (2, [none, none, none, none, none, none, none, none, none, none]))))) (cw_hn 63 (cw_hl (.inl (2, [none, none, none, none, none, none, none, none, none, none]))) (cw_hn 64 (cw_hl (.inl (2, [none, none, none, none, none, none, none, none, none, none]))) (cw_hl (.inl (2, [none, none, none, none, none, none, none, none, none, none])))))))) (cw_hn 76 (cw_hn 70 (cw_hn 67 (cw_hn 66 (cw_hl (.inl (2, [none, none, none, none, none, none, none, none, none, none]))) (cw_hl (.inl (0, [some 67, none, none])))) (cw_hn 68 (cw_hl (.inr (2, 8, 68, 9))) (cw_hn 69 (cw_hl (.inl (6, [some 69, some 70, some 71, some 72, some 73, some 74, some 75, some 76, none, none, none, none]))) (cw_hl (.inr (0, 8, 0, 0)))))) (cw_hn 73 (cw_hn 71 (cw_hl (.inr (0, 8, 0, 0))) (cw_hn 72 (cw_hl (.inr (0, 8, 0, 0))) (cw_hl (.inr (0, 8, 0, 0))))) (cw_hn 74 (cw_hl (.inr (0, 8, 0, 0))) (cw_hn 75 (cw_hl (.inr (0, 15, 0, 0))) (cw_hl (.inr (0, 15, 0, 0))))))) (cw_hn 81 (cw_hn 78 (cw_hn 77 (cw_hl (.inr (0, 15, 0, 0))) (cw_hl (.inl (6, [some 78, some 79, some 80, some 81, some 82, some 83, some 84, some 85, none, none, none, none])))) (cw_hn 79 (cw_hl (.inr (0, 8, 0, 0))) (cw_hn 80 (cw_hl (.inr (0, 8, 0, 0))) (cw_hl (.inr (0, 8, 0, 0)))))) (cw_hn 84 (cw_hn 82 (cw_hl (.inr (0, 8, 0, 0))) (cw_hn 83 (cw_hl (.inr (0, 8, 0, 0))) (cw_hl (.inr (0, 15, 0, 0))))) (cw_hn 85 (cw_hl (.inr (0, 15, 0, 0))) (cw_hn 86 (cw_hl (.inr (0, 15, 0, 0))) (cw_hl (.inl (6, [some 87, some 88, some 89, some 90, some 91, some 92, some 93, some 94, none, none, none, none])))))))))) (cw_hn 131 (cw_hn 109 (cw_hn 98 (cw_hn 92 (cw_hn 89 (cw_hn 88 (cw_hl (.inr (0, 8, 0, 0))) (cw_hl (.inr (0, 8, 0, 0)))) (cw_hn 90 (cw_hl (.inr (0, 8, 0, 0))) (cw_hn 91 (cw_hl (.inr (0, 8, 0, 0))) (cw_hl (.inr (0, 8, 0, 0)))))) (cw_hn 95 (cw_hn 93 (cw_hl (.inr (0, 15, 0, 0))) (cw_hn 94 (cw_hl (.inr (0, 15, 0, 0))) (cw_hl (.inr (0, 15, 0, 0))))) (cw_hn 96 (cw_hl (.inl (6, [some 96, some 97, some 98, some 99, some 100, some 101, some 102, some 103, none, none, none, none]))) (cw_hn 97 (cw_hl (.inr (0, 8, 0, 0))) (cw_hl (.inr (0, 8, 0, 0))))))) (cw_hn 103 (cw_hn 100 (cw_hn 99 (cw_hl (.inr (0, 8, 0, 0))) (cw_hl (.inr (0, 8, 0, 0)))) (cw_hn 101 (cw_hl (.inr (0, 8, 0, 0))) (cw_hn 102 (cw_hl (.inr (0, 15, 0, 0))) (cw_hl (.inr (0, 15, 0, 0)))))) (cw_hn 106 (cw_hn 104 (cw_hl (.inr (0, 15, 0, 0))) (cw_hn 105 (cw_hl (.inl (6, [some 105, some 106, some 107, some 108, some 109, some 110, some 111, some 112, none, none, none, none]))) (cw_hl (.inr (0, 8, 0, 0))))) (cw_hn 107 (cw_hl (.inr (0, 8, 0, 0))) (cw_hn 108 (cw_hl (.inr (0, 8, 0, 0))) (cw_hl (.inr (0, 8, 0, 0)))))))) (cw_hn 120 (cw_hn 114 (cw_hn 111 (cw_hn 110 (cw_hl (.inr (0, 8, 0, 0))) (cw_hl (.inr (0, 15, 0, 0)))) (cw_hn 112 (cw_hl (.inr (0, 15, 0, 0))) (cw_hn 113 (cw_hl (.inr (0, 15, 0, 0))) (cw_hl (.inl (6, [some 114, some 115, some 116, some 117, some 118, some 119, some 120, some 121, none, none, none, none])))))) (cw_hn 117 (cw_hn 115 (cw_hl (.inr (0, 8, 0, 0))) (cw_hn 116 (cw_hl (.inr (0, 8, 0, 0))) (cw_hl (.inr (0, 8, 0, 0))))) (cw_hn 118 (cw_hl (.inr (0, 8, 0, 0))) (cw_hn 119 (cw_hl (.inr (0, 8, 0, 0))) (cw_hl (.inr (0, 15, 0, 0))))))) (cw_hn 125 (cw_hn 122 (cw_hn 121 (cw_hl (.inr (0, 15, 0, 0))) (cw_hl (.inr (0, 15, 0, 0)))) (cw_hn 123 (cw_hl (.inl (6, [some 123, some 124, some 125, some 126, some 127, some 128, some 129, some 130, none, none, none, none]))) (cw_hn 124 (cw_hl (.inr (0, 8, 0, 0))) (cw_hl (.inr (0, 8, 0, 0)))))) (cw_hn 128 (cw_hn 126 (cw_hl (.inr (0, 8, 0, 0))) (cw_hn 127 (cw_hl (.inr (0, 8, 0, 0))) (cw_hl (.inr (0, 8, 0, 0))))) (cw_hn 129 (cw_hl (.inr (0, 15, 0, 0))) (cw_hn 130 (cw_hl (.inr (0, 15, 0, 0))) (cw_hl (.inr (0, 15, 0, 0))))))))) (cw_hn 153 (cw_hn 142 (cw_hn 136 (cw_hn 133 (cw_hn 132 (cw_hl (.inl (6, [some 132, some 133, some 134, some 135, some 136, some 137, some 138, some 139, none, none, none, none]))) (cw_hl (.inr (0, 8, 0, 0)))) (cw_hn 134 (cw_hl (.inr (0, 8, 0, 0))) (cw_hn 135 (cw_hl (.inr (0, 8, 0, 0))) (cw_hl (.inr (0, 8, 0, 0)))))) (cw_hn 139 (cw_hn 137 (cw_hl (.inr (0, 8, 0, 0))) (cw_hn 138 (cw_hl (.inr (0, 15, 0, 0))) (cw_hl (.inr (0, 15, 0, 0))))) (cw_hn 140 (cw_hl (.inr (0, 15, 0, 0))) (cw_hn 141 (cw_hl (.inl (5, [some 141, some 142, some 143, some 144, some 145, none, none, none, none]))) (cw_hl (.inr (0, 60, 0, 0))))))) (cw_hn 147 (cw_hn 144 (cw_hn 143 (cw_hl (.inr (0, 61, 0, 0))) (cw_hl (.inr (0, 61, 0, 0)))) (cw_hn 145 (cw_hl (.inr (0, 7, 0, 0))) (cw_hn 146 (cw_hl (.inr (0, 7, 0, 0))) (cw_hl (.inl (9, [some 147, none, some 148, none, none, none, none, some 149, some 150, some 151, some 152, some 153, some 154, none, some 155, some 156, some 157, some 158, some 159, some 160, some 161, some 162, some 163, some 164, some 165, none, none, none, none, some 166, some 167, some 168, none, none, some 169, some 170, none, none, some 171, none, none, some 172, none, some 173, some 174])))))) (cw_hn 150 (cw_hn 148 (cw_hl (.inr (0, 3, 0, 0))) (cw_hn 149 (cw_hl (.inr (0, 32, 0, 0))) (cw_hl (.inr (0, 8, 0, 0))))) (cw_hn 151 (cw_hl (.inr (0, 15, 0, 0))) (cw_hn 152 (cw_hl (.inr (0, 15, 0, 0))) (cw_hl (.inr (0, 15, 0, 0)))))))) (cw_hn 164 (cw_hn 158 (cw_hn 155 (cw_hn 154 (cw_hl (.inr (0, 15, 0, 0))) (cw_hl (.inr (0, 60, 0, 0)))) (cw_hn 156 (cw_hl (.inr (0, 704, 0, 0))) (cw_hn 157 (cw_hl (.inr (0, 15, 0, 0))) (cw_hl (.inr (0, 15, 0, 0)))))) (cw_hn 161 (cw_hn 159 (cw_hl (.inr (0, 15, 0, 0))) (cw_hn 160 (cw_hl (.inr (0, 15, 0, 0))) (cw_hl (.inr (0, 15, 0, 0))))) (cw_hn 162 (cw_hl (.inr (0, 15, 0, 0))) (cw_hn 163 (cw_hl (.inr (0, 15, 0, 0))) (cw_hl (.inr (0, 15, 0, 0))))))) (cw_hn 169 (cw_hn 166 (cw_hn 165 (cw_hl (.inr (0, 15, 0, 0))) (cw_hl (.inr (0, 15, 0, 0)))) (cw_hn 167 (cw_hl (.inr (0, 15, 0, 0))) (cw_hn 168 (cw_hl (.inr (0, 15, 0, 0))) (cw_hl (.inr (0, 15, 0, 0)))))) (cw_hn 172 (cw_hn 170 (cw_hl (.inr (0, 15, 0, 0))) (cw_hn 171 (cw_hl (.inr (0, 60, 0, 0))) (cw_hl (.inr (0, 60, 0, 0))))) (cw_hn 173 (cw_hl (.inr (0, 8, 0, 0))) (cw_hn 174 (cw_hl (.inr (0, 60, 0, 0))) (cw_hl (.inr (0, 60, 0, 0))))))))))
/-- the numbers: of each cell and slot; the row of longs -/
abbrev cw_V : Type := Nat → Nat → Int32
def cw_fv (σ : cw_V) (p : Nat) : Nat → List (Option Nat) → List Value
  | _, [] => []
  | k, f :: r => (match f with
    | some q => .ref q
    | none => .int (σ p k)) :: cw_fv σ p (k + 1) r
def cw_rq (n b s : Nat) : Nat → Option Nat := fun j => if j < n then some (b + s * j) else none
def cw_mk (σ : cw_V) (lam : Nat → Int64) (p : Nat) (s : cw_Sh) : cw_C := match s with
  | .inl (c, fs) => .inr (c, cw_fv σ p 0 fs)
  | .inr (0, n, _, _) => .inl (0, n, .inl (σ p))
  | .inr (1, n, _, _) => .inl (1, n, .inr (.inl lam))
  | .inr (t, n, b, st) => .inl (t, n, .inr (.inr (.inr (.inr (cw_rq n b st)))))
def cw_B (σ : cw_V) (lam : Nat → Int64) : cw_H := (List.range 175).map fun p => cw_mk σ lam p (cw_shp p)
theorem cw_B_get {σ : cw_V} {lam : Nat → Int64} {p : Nat} (h : p < 175) : (cw_B σ lam)[p]? = some (cw_mk σ lam p (cw_shp p)) := by
  unfold cw_B
  rw [List.getElem?_map, List.getElem?_range h]
  rfl
def cw_up (σ : cw_V) (p k : Nat) (x : Int32) : cw_V := fun q => if q = p then upd (σ p) k x else σ q
theorem cw_mk_ne {σ σ' : cw_V} {lam : Nat → Int64} {p : Nat} {s : cw_Sh} (h : σ' p = σ p) : cw_mk σ' lam p s = cw_mk σ lam p s := by
  have hf : ∀ (fs : List (Option Nat)) (k : Nat), cw_fv σ' p k fs = cw_fv σ p k fs := by
    intro fs
    induction fs with
    | nil => intro k; rfl
    | cons f r ih =>
      intro k
      unfold cw_fv
      rw [ih (k + 1), h]
  unfold cw_mk
  split
  · rw [hf]
  · rw [h]
  · rfl
  · rfl
theorem cw_B_set {σ σ' : cw_V} {lam : Nat → Int64} {p : Nat} {c : cw_C} (hp : p < 175) (hc : c = cw_mk σ' lam p (cw_shp p)) (h : ∀ q, q ≠ p → σ' q = σ q) : (cw_B σ lam).set p c = cw_B σ' lam := by
  apply List.ext_getElem?
  intro i
  rw [List.getElem?_set]
  have hl : (cw_B σ lam).length = 175 := by simp [cw_B]
  split
  · rename_i e
    subst e
    rw [hl, if_pos hp, cw_B_get hp, hc]
  · rename_i e
    rcases Nat.lt_or_ge i 175 with q | q
    · rw [cw_B_get q, cw_B_get q, cw_mk_ne (h i (fun z => e z.symm))]
    · rw [List.getElem?_eq_none (by simp [cw_B]; exact q), List.getElem?_eq_none (by simp [cw_B]; exact q)]
/-- what the shape says of a field; of a row -/
def cw_fR (p ci k : Nat) : Option (Option Nat) := bif Nat.ble p 174 then (match cw_shp p with
  | .inl (c, fs) => bif Nat.beq c ci then fs[k]? else none
  | .inr _ => none) else none
def cw_aR (p : Nat) : Option (Nat × Nat × Nat × Nat) := bif Nat.ble p 174 then (match cw_shp p with
  | .inl _ => none
  | .inr a => some a) else none
def cw_cR (p : Nat) : Option Nat := bif Nat.ble p 174 then (match cw_shp p with
  | .inl (c, _) => some c
  | .inr _ => none) else none
theorem cw_fR_is {p ci k : Nat} {f : Option Nat} (h : cw_fR p ci k = some f) : p < 175 ∧ ∃ fs, cw_shp p = .inl (ci, fs) ∧ fs[k]? = some f := by
  unfold cw_fR at h
  cases e : Nat.ble p 174 with
  | false => rw [e] at h; cases h
  | true =>
    rw [e] at h
    have hp := Nat.le_of_ble_eq_true e
    refine ⟨by omega, ?_⟩
    cases hs : cw_shp p with
    | inr a => rw [hs] at h; cases h
    | inl o =>
      obtain ⟨c, fs⟩ := o
      rw [hs] at h
      dsimp only [cond_true] at h
      cases e2 : Nat.beq c ci with
      | false => rw [e2] at h; cases h
      | true =>
        rw [e2] at h
        cases Nat.eq_of_beq_eq_true e2
        exact ⟨fs, rfl, h⟩
theorem cw_aR_is {p : Nat} {a : Nat × Nat × Nat × Nat} (h : cw_aR p = some a) : p < 175 ∧ cw_shp p = .inr a := by
  unfold cw_aR at h
  cases e : Nat.ble p 174 with
  | false => rw [e] at h; cases h
  | true =>
    rw [e] at h
    have hp := Nat.le_of_ble_eq_true e
    refine ⟨by omega, ?_⟩
    cases hs : cw_shp p with
    | inl o => rw [hs] at h; cases h
    | inr b => rw [hs] at h; cases h; rfl
theorem cw_cR_is {p c : Nat} (h : cw_cR p = some c) : p < 175 ∧ ∃ fs, cw_shp p = .inl (c, fs) := by
  unfold cw_cR at h
  cases e : Nat.ble p 174 with
  | false => rw [e] at h; cases h
  | true =>
    rw [e] at h
    have hp := Nat.le_of_ble_eq_true e
    refine ⟨by omega, ?_⟩
    cases hs : cw_shp p with
    | inr a => rw [hs] at h; cases h
    | inl o =>
      obtain ⟨c, fs⟩ := o
      rw [hs] at h
      cases h
      exact ⟨fs, rfl⟩
theorem cw_fv_get {σ : cw_V} {p : Nat} : ∀ (fs : List (Option Nat)) (j k : Nat) (f : Option Nat), fs[k]? = some f → (cw_fv σ p j fs)[k]? = some (match f with
    | some q => .ref q
    | none => .int (σ p (j + k)))
  | [], _, _, _, h => by simp at h
  | f0 :: r, j, 0, f, h => by
    simp at h
    subst h
    cases f0 <;> simp [cw_fv]
  | f0 :: r, j, k + 1, f, h => by
    simp at h
    have := cw_fv_get (σ := σ) (p := p) r (j + 1) k f h
    unfold cw_fv
    rw [List.getElem?_cons_succ, this, show j + 1 + k = j + (k + 1) by omega]
theorem cw_fv_len {σ : cw_V} {p : Nat} : ∀ (fs : List (Option Nat)) (j : Nat), (cw_fv σ p j fs).length = fs.length
  | [], _ => rfl
  | f0 :: r, j => by unfold cw_fv; rw [List.length_cons, cw_fv_len r (j + 1), List.length_cons]
theorem cw_fv_set {σ : cw_V} {p : Nat} {x : Int32} : ∀ (fs : List (Option Nat)) (j k : Nat), fs[k]? = some none → (cw_fv σ p j fs).set k (.int x) = cw_fv (cw_up σ p (j + k) x) p j fs
  | [], _, _, h => by simp at h
  | f0 :: r, j, 0, h => by
    simp at h
    subst h
    have hr : ∀ (fs : List (Option Nat)) (i : Nat), j < i → cw_fv (cw_up σ p j x) p i fs = cw_fv σ p i fs := by
      intro fs
      induction fs with
      | nil => intro i _; rfl
      | cons f r ih =>
        intro i hi
        unfold cw_fv
        rw [ih (i + 1) (by omega)]
        cases f with
        | some q => rfl
        | none =>
          have : cw_up σ p j x p i = σ p i := by
            unfold cw_up upd
            rw [if_pos rfl, if_neg (by omega)]
          rw [this]
    rw [Nat.add_zero]
    unfold cw_fv
    rw [List.set_cons_zero, hr r (j + 1) (by omega)]
    have : cw_up σ p j x p j = x := by
      unfold cw_up upd
      rw [if_pos rfl, if_pos rfl]
    rw [this]
  | f0 :: r, j, k + 1, h => by
    simp at h
    have ih := cw_fv_set (σ := σ) (p := p) (x := x) r (j + 1) k h
    unfold cw_fv
    rw [List.set_cons_succ, ih, show j + 1 + k = j + (k + 1) by omega]
    congr 1
    cases f0 with
    | some q => rfl
    | none =>
      have : cw_up σ p (j + (k + 1)) x p j = σ p j := by
        unfold cw_up upd
        rw [if_pos rfl, if_neg (by omega)]
      rw [this]
