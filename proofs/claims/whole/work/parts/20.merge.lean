/-! PARTS AND MERGES -/
def isW (w : Nat) : Prop := w = 10 ∨ w = 46
def isP (p : Nat) : Prop := ∃ w, isW w ∧ (p = w + 2 ∨ ∃ n, n < 15 ∧ p = w + 5 + n)
def isM (m : Nat) : Prop := ∃ w, isW w ∧ m = w + 3
theorem Wires_f0 {w : Nat} (h : isW w) : cw_fR w 7 0 = some (some (w + 1)) := by rcases h with rfl | rfl <;> rfl
theorem Wires_f1 {w : Nat} (h : isW w) : cw_fR w 7 1 = some (some (w + 2)) := by rcases h with rfl | rfl <;> rfl
theorem Wires_f2 {w : Nat} (h : isW w) : cw_fR w 7 2 = some (some (w + 3)) := by rcases h with rfl | rfl <;> rfl
theorem Wires_f3 {w : Nat} (h : isW w) : cw_fR w 7 3 = some (some (w + 4)) := by rcases h with rfl | rfl <;> rfl
theorem Wires_f4 {w : Nat} (h : isW w) : cw_fR w 7 4 = some none := by rcases h with rfl | rfl <;> rfl
theorem Wires_f5 {w : Nat} (h : isW w) : cw_fR w 7 5 = some none := by rcases h with rfl | rfl <;> rfl
theorem Wires_f6 {w : Nat} (h : isW w) : cw_fR w 7 6 = some none := by rcases h with rfl | rfl <;> rfl
theorem Wires_c {w : Nat} (h : isW w) : cw_cR w = some 7 := by rcases h with rfl | rfl <;> rfl
theorem Wires_a0 {w : Nat} (h : isW w) : cw_aR (w + 1) = some (1 + 2, 15, w + 5, 1) := by rcases h with rfl | rfl <;> rfl
theorem Wires_a3 {w : Nat} (h : isW w) : cw_aR (w + 4) = some (0, 15, 0, 0) := by rcases h with rfl | rfl <;> rfl
theorem Merge_f0 {m : Nat} (h : isM m) : cw_fR m 1 0 = some none := by obtain ⟨w, rfl | rfl, rfl⟩ := h <;> rfl
theorem Merge_f1 {m : Nat} (h : isM m) : cw_fR m 1 1 = some none := by obtain ⟨w, rfl | rfl, rfl⟩ := h <;> rfl
theorem Merge_f2 {m : Nat} (h : isM m) : cw_fR m 1 2 = some none := by obtain ⟨w, rfl | rfl, rfl⟩ := h <;> rfl
theorem Merge_f3 {m : Nat} (h : isM m) : cw_fR m 1 3 = some none := by obtain ⟨w, rfl | rfl, rfl⟩ := h <;> rfl
theorem Merge_c {m : Nat} (h : isM m) : cw_cR m = some 1 := by obtain ⟨w, rfl | rfl, rfl⟩ := h <;> rfl
theorem isP.all {X : Nat → Prop} {p : Nat} (h : isP p) (hc : ∀ q, q < 66 → (q = 12 ∨ q = 48 ∨ (15 ≤ q ∧ q < 30) ∨ (51 ≤ q ∧ q < 66)) → X q) : X p := by
  obtain ⟨w, hw, h⟩ := h
  rcases hw with rfl | rfl
  · rcases h with rfl | ⟨n, hn, rfl⟩
    · exact hc _ (by omega) (by omega)
    · exact hc _ (by omega) (by omega)
  · rcases h with rfl | ⟨n, hn, rfl⟩
    · exact hc _ (by omega) (by omega)
    · exact hc _ (by omega) (by omega)
theorem Part_f0 {p : Nat} (h : isP p) : cw_fR p 2 0 = some none := h.all (X := fun p => cw_fR p 2 0 = some none) (by decide +kernel)
theorem Part_f1 {p : Nat} (h : isP p) : cw_fR p 2 1 = some none := h.all (X := fun p => cw_fR p 2 1 = some none) (by decide +kernel)
theorem Part_f2 {p : Nat} (h : isP p) : cw_fR p 2 2 = some none := h.all (X := fun p => cw_fR p 2 2 = some none) (by decide +kernel)
theorem Part_f3 {p : Nat} (h : isP p) : cw_fR p 2 3 = some none := h.all (X := fun p => cw_fR p 2 3 = some none) (by decide +kernel)
theorem Part_f4 {p : Nat} (h : isP p) : cw_fR p 2 4 = some none := h.all (X := fun p => cw_fR p 2 4 = some none) (by decide +kernel)
theorem Part_f5 {p : Nat} (h : isP p) : cw_fR p 2 5 = some none := h.all (X := fun p => cw_fR p 2 5 = some none) (by decide +kernel)
theorem Part_f6 {p : Nat} (h : isP p) : cw_fR p 2 6 = some none := h.all (X := fun p => cw_fR p 2 6 = some none) (by decide +kernel)
theorem Part_f7 {p : Nat} (h : isP p) : cw_fR p 2 7 = some none := h.all (X := fun p => cw_fR p 2 7 = some none) (by decide +kernel)
theorem Part_f8 {p : Nat} (h : isP p) : cw_fR p 2 8 = some none := h.all (X := fun p => cw_fR p 2 8 = some none) (by decide +kernel)
theorem Part_f9 {p : Nat} (h : isP p) : cw_fR p 2 9 = some none := h.all (X := fun p => cw_fR p 2 9 = some none) (by decide +kernel)
theorem Part_c {p : Nat} (h : isP p) : cw_cR p = some 2 := h.all (X := fun p => cw_cR p = some 2) (by decide +kernel)
theorem isPM {p m : Nat} (hp : isP p) (hm : isM m) : p ≠ m := by
  obtain ⟨w, hw, rfl⟩ := hm
  refine hp.all (X := fun p => p ≠ w + 3) (fun q _ h => ?_)
  rcases hw with rfl | rfl <;> omega
/-- the greater, the lesser, the size, as the machine has them -/
def mx (x y : Int32) : Int32 := if x < y then y else x
def mn (x y : Int32) : Int32 := if y < x then y else x
def ab (x : Int32) : Int32 := if 0 ≤ x then x else 0 - x
/-- of two parts (0 U1, 1 U2, 2 V1, 3 V2, 4 early, 5 late, 6 wire, 7 cost, 8 sinks, 9 loads): D, d, s, the wires -/
def gapF (a b : Nat → Int32) : Int32 := mx 0 (mx (mx (b 0 - a 1) (a 0 - b 1)) (mx (b 2 - a 3) (a 2 - b 3)))
def wantF (a b : Nat → Int32) : Int32 := (b 4 + b 5 - a 4 - a 5) / 2
def leadF (a b : Nat → Int32) (g sk : Int32) : Int32 := if wantF a b ≤ g then (if -g ≤ wantF a b then wantF a b else mn (-g) (sk + b 4 - a 5)) else mx g (b 5 - a 4 - sk)
def spanF (a b : Nat → Int32) (sk : Int32) : Int32 := mx (gapF a b) (ab (leadF a b (gapF a b) sk))
def lwF (a b : Nat → Int32) (sk : Int32) : Int32 := (spanF a b sk + leadF a b (gapF a b) sk) / 2
def rwF (a b : Nat → Int32) (sk : Int32) : Int32 := (spanF a b sk - leadF a b (gapF a b) sk) / 2
section
variable {d : Nat} {σ : cw_V} {lam : Nat → Int64} {Q : cw_Q} {a b m j : Nat} {sk : Int32}
theorem z_gapBetween (hm : isM m) (ha : isP a) (hb : isP b) (kk : Q (some (.int (gapF (σ a) (σ b)))) (cw_B σ lam)) : cw_Z (d + 1) m_Merge_gapBetween [.ref m, .ref a, .ref b] (cw_B σ lam) Q := by
  refine zi (L := [some (.ref m), some (.ref a), some (.ref b), none, none]) rfl rfl (fun K hK => ?_)
  refine st_go hK rfl rfl ?_
  refine st_geti hK rfl (Part_f0 hb) ?_
  refine st_go hK rfl rfl ?_
  refine st_geti hK rfl (Part_f1 ha) ?_
  refine st_bin hK rfl ?_
  refine st_go hK rfl rfl ?_
  refine st_geti hK rfl (Part_f0 ha) ?_
  refine st_go hK rfl rfl ?_
  refine st_geti hK rfl (Part_f1 hb) ?_
  refine st_bin hK rfl ?_
  refine st_max hK rfl (Nat.le_of_ble_eq_true rfl) ?_
  refine st_go hK rfl rfl ?_
  refine st_go hK rfl rfl ?_
  refine st_geti hK rfl (Part_f2 hb) ?_
  refine st_go hK rfl rfl ?_
  refine st_geti hK rfl (Part_f3 ha) ?_
  refine st_bin hK rfl ?_
  refine st_go hK rfl rfl ?_
  refine st_geti hK rfl (Part_f2 ha) ?_
  refine st_go hK rfl rfl ?_
  refine st_geti hK rfl (Part_f3 hb) ?_
  refine st_bin hK rfl ?_
  refine st_max hK rfl (Nat.le_of_ble_eq_true rfl) ?_
  refine st_go hK rfl rfl ?_
  refine st_go hK rfl rfl ?_
  refine st_go hK rfl rfl ?_
  refine st_go hK rfl rfl ?_
  refine st_max hK rfl (Nat.le_of_ble_eq_true rfl) ?_
  refine st_max hK rfl (Nat.le_of_ble_eq_true rfl) ?_
  refine st_ret hK rfl rfl ?_
  exact kk
theorem z_leadOf (hm : isM m) (ha : isP a) (hb : isP b) (kk : Q (some (.int (leadF (σ a) (σ b) (σ m 0) sk))) (cw_B σ lam)) : cw_Z (d + 1) m_Merge_leadOf [.ref m, .ref a, .ref b, .int sk] (cw_B σ lam) Q := by
  refine zi (L := [some (.ref m), some (.ref a), some (.ref b), some (.int sk), none]) rfl rfl (fun K hK => ?_)
  refine st_go hK rfl rfl ?_
  refine st_geti hK rfl (Part_f4 hb) ?_
  refine st_go hK rfl rfl ?_
  refine st_geti hK rfl (Part_f5 hb) ?_
  refine st_bin hK rfl ?_
  refine st_go hK rfl rfl ?_
  refine st_geti hK rfl (Part_f4 ha) ?_
  refine st_bin hK rfl ?_
  refine st_go hK rfl rfl ?_
  refine st_geti hK rfl (Part_f5 ha) ?_
  refine st_bin hK rfl ?_
  refine st_go hK rfl rfl ?_
  refine st_div hK rfl (by decide) ?_
  refine st_go hK rfl rfl ?_
  refine st_go hK rfl rfl ?_
  refine st_go hK rfl rfl ?_
  refine st_geti hK rfl (Merge_f0 hm) ?_
  refine st_if hK rfl rfl (fun c29 => ?_) (fun c29 => ?_)
  · refine st_go hK rfl rfl ?_
    refine st_go hK rfl rfl ?_
    refine st_geti hK rfl (Merge_f0 hm) ?_
    refine st_go hK rfl rfl ?_
    refine st_if hK rfl rfl (fun c58 => ?_) (fun c58 => ?_)
    · refine st_go hK rfl rfl ?_
      refine st_ret hK rfl rfl ?_
      rw [show leadF (σ a) (σ b) (σ m 0) sk = wantF (σ a) (σ b) from (if_pos c29).trans (if_pos c58)] at kk
      exact kk
    · refine st_go hK rfl rfl ?_
      refine st_geti hK rfl (Merge_f0 hm) ?_
      refine st_go hK rfl rfl ?_
      refine st_go hK rfl rfl ?_
      refine st_go hK rfl rfl ?_
      refine st_geti hK rfl (Part_f4 hb) ?_
      refine st_bin hK rfl ?_
      refine st_go hK rfl rfl ?_
      refine st_geti hK rfl (Part_f5 ha) ?_
      refine st_bin hK rfl ?_
      refine st_min hK rfl (Nat.le_of_ble_eq_true rfl) ?_
      refine st_ret hK rfl rfl ?_
      rw [show leadF (σ a) (σ b) (σ m 0) sk = mn (-(σ m 0)) (sk + σ b 4 - σ a 5) from (if_pos c29).trans (if_neg c58)] at kk
      exact kk
  · refine st_go hK rfl rfl ?_
    refine st_geti hK rfl (Merge_f0 hm) ?_
    refine st_go hK rfl rfl ?_
    refine st_geti hK rfl (Part_f5 hb) ?_
    refine st_go hK rfl rfl ?_
    refine st_geti hK rfl (Part_f4 ha) ?_
    refine st_bin hK rfl ?_
    refine st_go hK rfl rfl ?_
    refine st_bin hK rfl ?_
    refine st_max hK rfl (Nat.le_of_ble_eq_true rfl) ?_
    refine st_ret hK rfl rfl ?_
    rw [show leadF (σ a) (σ b) (σ m 0) sk = mx (σ m 0) (σ b 5 - σ a 4 - sk) from if_neg c29] at kk
    exact kk
def wgF (σ : cw_V) (m a b : Nat) (sk : Int32) : cw_V := cw_up (cw_up (cw_up (cw_up σ m 0 (gapF (σ a) (σ b))) m 1 (spanF (σ a) (σ b) sk)) m 2 (lwF (σ a) (σ b) sk)) m 3 (rwF (σ a) (σ b) sk)
theorem wgF_ne {p : Nat} (h : p ≠ m) : wgF σ m a b sk p = σ p := by
  unfold wgF
  rw [up_ne h, up_ne h, up_ne h, up_ne h]
theorem wgF_0 : wgF σ m a b sk m 0 = gapF (σ a) (σ b) := by
  unfold wgF
  rw [up_eq, up_eq, up_eq, up_eq, upd_ne (by decide), upd_ne (by decide), upd_ne (by decide), upd_eq]
theorem wgF_1 : wgF σ m a b sk m 1 = spanF (σ a) (σ b) sk := by
  unfold wgF
  rw [up_eq, up_eq, up_eq, up_eq, upd_ne (by decide), upd_ne (by decide), upd_eq]
theorem wgF_2 : wgF σ m a b sk m 2 = lwF (σ a) (σ b) sk := by
  unfold wgF
  rw [up_eq, up_eq, up_eq, up_eq, upd_ne (by decide), upd_eq]
theorem wgF_3 : wgF σ m a b sk m 3 = rwF (σ a) (σ b) sk := by
  unfold wgF
  rw [up_eq, upd_eq]
theorem z_weigh (hm : isM m) (ha : isP a) (hb : isP b) (kk : Q none (cw_B (wgF σ m a b sk) lam)) : cw_Z (d + 2) m_Merge_weigh [.ref m, .ref a, .ref b, .int sk] (cw_B σ lam) Q := by
  have e1 : cw_up σ m 0 (gapF (σ a) (σ b)) m 0 = gapF (σ a) (σ b) := by rw [up_eq, upd_eq]
  have e2 : ∀ x : Int32, cw_up (cw_up σ m 0 (gapF (σ a) (σ b))) m 1 x m 1 = x := fun x => by rw [up_eq, upd_eq]
  have e3 : ∀ x y : Int32, cw_up (cw_up (cw_up σ m 0 (gapF (σ a) (σ b))) m 1 x) m 2 y m 1 = x := fun x y => by rw [up_eq, up_eq, upd_ne (by decide), upd_eq]
  refine zi (L := [some (.ref m), some (.ref a), some (.ref b), some (.int sk), none]) rfl rfl (fun K hK => ?_)
  refine st_go hK rfl rfl ?_
  refine st_go hK rfl rfl ?_
  refine st_go hK rfl rfl ?_
  refine st_go hK rfl rfl ?_
  refine cv2 hK rfl (Merge_c hm) (Nat.le_of_ble_eq_true rfl) ?_
  refine z_gapBetween hm ha hb ?_
  change K _ _ (_ :: _) _
  refine st_put hK rfl (Merge_f0 hm) rfl ?_
  refine st_go hK rfl rfl ?_
  refine st_go hK rfl rfl ?_
  refine st_go hK rfl rfl ?_
  refine st_go hK rfl rfl ?_
  refine cv3 hK rfl (Merge_c hm) (Nat.le_of_ble_eq_true rfl) ?_
  refine z_leadOf hm ha hb ?_
  rw [up_ne (isPM ha hm), up_ne (isPM hb hm), up_eq, upd_eq]
  change K _ _ (_ :: _) _
  refine st_go hK rfl rfl ?_
  refine st_go hK rfl rfl ?_
  refine st_go hK rfl rfl ?_
  refine st_geti hK rfl (Merge_f0 hm) ?_
  refine st_go hK rfl rfl ?_
  refine st_abs hK rfl (Nat.le_of_ble_eq_true rfl) ?_
  refine st_max hK rfl (Nat.le_of_ble_eq_true rfl) ?_
  refine st_put hK rfl (Merge_f1 hm) rfl ?_
  refine st_go hK rfl rfl ?_
  refine st_go hK rfl rfl ?_
  refine st_geti hK rfl (Merge_f1 hm) ?_
  refine st_go hK rfl rfl ?_
  refine st_bin hK rfl ?_
  refine st_go hK rfl rfl ?_
  refine st_div hK rfl (by decide) ?_
  refine st_put hK rfl (Merge_f2 hm) rfl ?_
  refine st_go hK rfl rfl ?_
  refine st_go hK rfl rfl ?_
  refine st_geti hK rfl (Merge_f1 hm) ?_
  refine st_go hK rfl rfl ?_
  refine st_bin hK rfl ?_
  refine st_go hK rfl rfl ?_
  refine st_div hK rfl (by decide) ?_
  refine st_put hK rfl (Merge_f3 hm) rfl ?_
  refine st_ret hK rfl rfl ?_
  rw [e1, e2, e3] ; exact kk
/-- the joint's part, out of its children's and their wires -/
def jnF (f a b : Nat → Int32) (l r : Int32) : Nat → Int32 := fun k => if k = 0 then mx (a 0 - l) (b 0 - r) else if k = 1 then mn (a 1 + l) (b 1 + r) else if k = 2 then mx (a 2 - l) (b 2 - r) else if k = 3 then mn (a 3 + l) (b 3 + r) else if k = 4 then mn (a 4 + l) (b 4 + r) else if k = 5 then mx (a 5 + l) (b 5 + r) else if k = 7 then a 7 + b 7 + l + r else if k = 8 then a 8 + b 8 else if k = 9 then a 9 + b 9 else f k
def jnS (σ σ' : cw_V) (m j a b : Nat) : Prop := (∀ p, p ≠ a → p ≠ b → p ≠ j → σ' p = σ p) ∧ σ' a = upd (σ a) 6 (σ m 2) ∧ σ' b = upd (σ b) 6 (σ m 3) ∧ ∀ k, σ' j k = jnF (σ j) (σ a) (σ b) (σ m 2) (σ m 3) k
theorem z_join (hm : isM m) (hj : isP j) (ha : isP a) (hb : isP b) (n1 : j ≠ a) (n2 : j ≠ b) (n3 : a ≠ b) (kk : ∀ σ', jnS σ σ' m j a b → Q none (cw_B σ' lam)) : cw_Z (d + 1) m_Merge_join [.ref m, .ref j, .ref a, .ref b] (cw_B σ lam) Q := by
  have q1 := isPM hj hm
  have q2 := isPM ha hm
  have q3 := isPM hb hm
  refine zi (L := [some (.ref m), some (.ref j), some (.ref a), some (.ref b)]) rfl rfl (fun K hK => ?_)
  refine st_go hK rfl rfl ?_
  refine st_go hK rfl rfl ?_
  refine st_geti hK rfl (Merge_f2 hm) ?_
  refine st_put hK rfl (Part_f6 ha) rfl ?_
  refine st_go hK rfl rfl ?_
  refine st_go hK rfl rfl ?_
  refine st_geti hK rfl (Merge_f3 hm) ?_
  refine st_put hK rfl (Part_f6 hb) rfl ?_
  refine st_go hK rfl rfl ?_
  refine st_go hK rfl rfl ?_
  refine st_geti hK rfl (Part_f4 ha) ?_
  refine st_go hK rfl rfl ?_
  refine st_geti hK rfl (Merge_f2 hm) ?_
  refine st_bin hK rfl ?_
  refine st_go hK rfl rfl ?_
  refine st_geti hK rfl (Part_f4 hb) ?_
  refine st_go hK rfl rfl ?_
  refine st_geti hK rfl (Merge_f3 hm) ?_
  refine st_bin hK rfl ?_
  refine st_min hK rfl (Nat.le_of_ble_eq_true rfl) ?_
  refine st_put hK rfl (Part_f4 hj) rfl ?_
  refine st_go hK rfl rfl ?_
  refine st_go hK rfl rfl ?_
  refine st_geti hK rfl (Part_f5 ha) ?_
  refine st_go hK rfl rfl ?_
  refine st_geti hK rfl (Merge_f2 hm) ?_
  refine st_bin hK rfl ?_
  refine st_go hK rfl rfl ?_
  refine st_geti hK rfl (Part_f5 hb) ?_
  refine st_go hK rfl rfl ?_
  refine st_geti hK rfl (Merge_f3 hm) ?_
  refine st_bin hK rfl ?_
  refine st_max hK rfl (Nat.le_of_ble_eq_true rfl) ?_
  refine st_put hK rfl (Part_f5 hj) rfl ?_
  refine st_go hK rfl rfl ?_
  refine st_go hK rfl rfl ?_
  refine st_geti hK rfl (Part_f0 ha) ?_
  refine st_go hK rfl rfl ?_
  refine st_geti hK rfl (Merge_f2 hm) ?_
  refine st_bin hK rfl ?_
  refine st_go hK rfl rfl ?_
  refine st_geti hK rfl (Part_f0 hb) ?_
  refine st_go hK rfl rfl ?_
  refine st_geti hK rfl (Merge_f3 hm) ?_
  refine st_bin hK rfl ?_
  refine st_max hK rfl (Nat.le_of_ble_eq_true rfl) ?_
  refine st_put hK rfl (Part_f0 hj) rfl ?_
  refine st_go hK rfl rfl ?_
  refine st_go hK rfl rfl ?_
  refine st_geti hK rfl (Part_f1 ha) ?_
  refine st_go hK rfl rfl ?_
  refine st_geti hK rfl (Merge_f2 hm) ?_
  refine st_bin hK rfl ?_
  refine st_go hK rfl rfl ?_
  refine st_geti hK rfl (Part_f1 hb) ?_
  refine st_go hK rfl rfl ?_
  refine st_geti hK rfl (Merge_f3 hm) ?_
  refine st_bin hK rfl ?_
  refine st_min hK rfl (Nat.le_of_ble_eq_true rfl) ?_
  refine st_put hK rfl (Part_f1 hj) rfl ?_
  refine st_go hK rfl rfl ?_
  refine st_go hK rfl rfl ?_
  refine st_geti hK rfl (Part_f2 ha) ?_
  refine st_go hK rfl rfl ?_
  refine st_geti hK rfl (Merge_f2 hm) ?_
  refine st_bin hK rfl ?_
  refine st_go hK rfl rfl ?_
  refine st_geti hK rfl (Part_f2 hb) ?_
  refine st_go hK rfl rfl ?_
  refine st_geti hK rfl (Merge_f3 hm) ?_
  refine st_bin hK rfl ?_
  refine st_max hK rfl (Nat.le_of_ble_eq_true rfl) ?_
  refine st_put hK rfl (Part_f2 hj) rfl ?_
  refine st_go hK rfl rfl ?_
  refine st_go hK rfl rfl ?_
  refine st_geti hK rfl (Part_f3 ha) ?_
  refine st_go hK rfl rfl ?_
  refine st_geti hK rfl (Merge_f2 hm) ?_
  refine st_bin hK rfl ?_
  refine st_go hK rfl rfl ?_
  refine st_geti hK rfl (Part_f3 hb) ?_
  refine st_go hK rfl rfl ?_
  refine st_geti hK rfl (Merge_f3 hm) ?_
  refine st_bin hK rfl ?_
  refine st_min hK rfl (Nat.le_of_ble_eq_true rfl) ?_
  refine st_put hK rfl (Part_f3 hj) rfl ?_
  refine st_go hK rfl rfl ?_
  refine st_go hK rfl rfl ?_
  refine st_geti hK rfl (Part_f7 ha) ?_
  refine st_go hK rfl rfl ?_
  refine st_geti hK rfl (Part_f7 hb) ?_
  refine st_bin hK rfl ?_
  refine st_go hK rfl rfl ?_
  refine st_geti hK rfl (Merge_f2 hm) ?_
  refine st_bin hK rfl ?_
  refine st_go hK rfl rfl ?_
  refine st_geti hK rfl (Merge_f3 hm) ?_
  refine st_bin hK rfl ?_
  refine st_put hK rfl (Part_f7 hj) rfl ?_
  refine st_go hK rfl rfl ?_
  refine st_go hK rfl rfl ?_
  refine st_geti hK rfl (Part_f8 ha) ?_
  refine st_go hK rfl rfl ?_
  refine st_geti hK rfl (Part_f8 hb) ?_
  refine st_bin hK rfl ?_
  refine st_put hK rfl (Part_f8 hj) rfl ?_
  refine st_go hK rfl rfl ?_
  refine st_go hK rfl rfl ?_
  refine st_geti hK rfl (Part_f9 ha) ?_
  refine st_go hK rfl rfl ?_
  refine st_geti hK rfl (Part_f9 hb) ?_
  refine st_bin hK rfl ?_
  refine st_put hK rfl (Part_f9 hj) rfl ?_
  refine st_ret hK rfl rfl ?_
  refine kk _ ?_
  have n1' := n1.symm
  have n2' := n2.symm
  have n3' := n3.symm
  have q1' := q1.symm
  have q2' := q2.symm
  have q3' := q3.symm
  refine ⟨fun p h1 h2 h3 => ?_, ?_, ?_, ?_⟩
  · simp only [cw_up, h1, h2, h3, if_false]
  · simp only [cw_up, n1, n2, n3, n1', n2', n3', q1, q2, q3, q1', q2', q3', if_true, if_false]
  · simp only [cw_up, n1, n2, n3, n1', n2', n3', q1, q2, q3, q1', q2', q3', if_true, if_false]
  · intro k
    simp only [cw_up, n1, n2, n3, n1', n2', n3', q1, q2, q3, q1', q2', q3', if_true, if_false]
    rcases (show k = 0 ∨ k = 1 ∨ k = 2 ∨ k = 3 ∨ k = 4 ∨ k = 5 ∨ k = 6 ∨ k = 7 ∨ k = 8 ∨ k = 9 ∨ 10 ≤ k by omega) with rfl | rfl | rfl | rfl | rfl | rfl | rfl | rfl | rfl | rfl | h
    all_goals first
      | (simp [upd, jnF, mx, mn]; done)
      | (have z0 : k ≠ 0 := by omega
         have z1 : k ≠ 1 := by omega
         have z2 : k ≠ 2 := by omega
         have z3 : k ≠ 3 := by omega
         have z4 : k ≠ 4 := by omega
         have z5 : k ≠ 5 := by omega
         have z7 : k ≠ 7 := by omega
         have z8 : k ≠ 8 := by omega
         have z9 : k ≠ 9 := by omega
         simp [upd, jnF, z0, z1, z2, z3, z4, z5, z7, z8, z9]; done)
/-- a sink's part -/
def ssF (f : Nat → Int32) (x y o l : Int32) : Nat → Int32 := fun k => if k = 0 ∨ k = 1 then (x + y) * 65536 else if k = 2 ∨ k = 3 then (x - y) * 65536 else if k = 4 ∨ k = 5 then o * 65536 else if k = 7 then 0 else if k = 8 then 1 else if k = 9 then l else f k
theorem isPT {p t i : Nat} (hp : isP p) (ht : isT t) (hi : i ≤ 8) : t + i ≠ p := by
  refine hp.all (X := fun p => t + i ≠ p) (fun q _ h => ?_)
  refine ht.cases (P := fun t => t + i ≠ q) (by omega) (by omega) (fun i' hi' => by omega)

theorem z_setSink {t : Nat} {k : Int32} (hj : isP j) (ht : isT t) (hk : hSink σ t k) (kk : ∀ σ', ((∀ p, p ≠ j → σ' p = σ p) ∧ ∀ i, σ' j i = ssF (σ j) (σ (t + 1) k.toNatClampNeg) (σ (t + 2) k.toNatClampNeg) (σ (t + 3) k.toNatClampNeg) (σ (t + 4) k.toNatClampNeg) i) → Q none (cw_B σ' lam)) : cw_Z (d + 2) m_Part_setSink [.ref j, .ref t, .int k] (cw_B σ lam) Q := by
  have r1 := isPT hj ht (i := 1) (by decide)
  have r2 := isPT hj ht (i := 2) (by decide)
  have r3 := isPT hj ht (i := 3) (by decide)
  have r4 := isPT hj ht (i := 4) (by decide)
  refine zi (L := [some (.ref j), some (.ref t), some (.int k)]) rfl rfl (fun K hK => ?_)
  refine st_go hK rfl rfl ?_
  refine st_go hK rfl rfl ?_
  refine cv1 hK rfl (Tree_c ht) (Nat.le_of_ble_eq_true rfl) ?_
  refine z_hasSink ht (fun _ => ?_) (fun z => absurd hk z)
  change K _ _ (_ :: _) _
  refine st_if hK rfl rfl (fun _ => ?_) (fun c => absurd (by decide) c)
  refine st_go hK rfl rfl ?_
  refine st_go hK rfl rfl ?_
  refine st_getr hK rfl (Tree_f0 ht) ?_
  refine st_go hK rfl rfl ?_
  refine st_iald hK rfl (Tree_a0 ht) hk.in ?_
  refine st_go hK rfl rfl ?_
  refine st_getr hK rfl (Tree_f1 ht) ?_
  refine st_go hK rfl rfl ?_
  refine st_iald hK rfl (Tree_a1 ht) hk.in ?_
  refine st_bin hK rfl ?_
  refine st_go hK rfl rfl ?_
  refine st_bin hK rfl ?_
  refine st_put hK rfl (Part_f0 hj) rfl ?_
  refine st_go hK rfl rfl ?_
  refine st_go hK rfl rfl ?_
  refine st_geti hK rfl (Part_f0 hj) ?_
  refine st_put hK rfl (Part_f1 hj) rfl ?_
  refine st_go hK rfl rfl ?_
  refine st_go hK rfl rfl ?_
  refine st_getr hK rfl (Tree_f0 ht) ?_
  refine st_go hK rfl rfl ?_
  refine st_iald hK rfl (Tree_a0 ht) hk.in ?_
  refine st_go hK rfl rfl ?_
  refine st_getr hK rfl (Tree_f1 ht) ?_
  refine st_go hK rfl rfl ?_
  refine st_iald hK rfl (Tree_a1 ht) hk.in ?_
  refine st_bin hK rfl ?_
  refine st_go hK rfl rfl ?_
  refine st_bin hK rfl ?_
  refine st_put hK rfl (Part_f2 hj) rfl ?_
  refine st_go hK rfl rfl ?_
  refine st_go hK rfl rfl ?_
  refine st_geti hK rfl (Part_f2 hj) ?_
  refine st_put hK rfl (Part_f3 hj) rfl ?_
  refine st_go hK rfl rfl ?_
  refine st_go hK rfl rfl ?_
  refine st_getr hK rfl (Tree_f2 ht) ?_
  refine st_go hK rfl rfl ?_
  refine st_iald hK rfl (Tree_a2 ht) hk.in ?_
  refine st_go hK rfl rfl ?_
  refine st_bin hK rfl ?_
  refine st_put hK rfl (Part_f4 hj) rfl ?_
  refine st_go hK rfl rfl ?_
  refine st_go hK rfl rfl ?_
  refine st_geti hK rfl (Part_f4 hj) ?_
  refine st_put hK rfl (Part_f5 hj) rfl ?_
  refine st_go hK rfl rfl ?_
  refine st_go hK rfl rfl ?_
  refine st_put hK rfl (Part_f7 hj) rfl ?_
  refine st_go hK rfl rfl ?_
  refine st_go hK rfl rfl ?_
  refine st_put hK rfl (Part_f8 hj) rfl ?_
  refine st_go hK rfl rfl ?_
  refine st_go hK rfl rfl ?_
  refine st_getr hK rfl (Tree_f3 ht) ?_
  refine st_go hK rfl rfl ?_
  refine st_iald hK rfl (Tree_a3 ht) hk.in ?_
  refine st_put hK rfl (Part_f9 hj) rfl ?_
  refine st_ret hK rfl rfl ?_
  refine kk _ ?_
  refine ⟨fun p hp => ?_, fun i => ?_⟩
  · simp only [cw_up, hp, if_false]
  · simp only [cw_up, r1, r2, r3, r4, if_true, if_false]
    rcases (show i = 0 ∨ i = 1 ∨ i = 2 ∨ i = 3 ∨ i = 4 ∨ i = 5 ∨ i = 6 ∨ i = 7 ∨ i = 8 ∨ i = 9 ∨ 10 ≤ i by omega) with rfl | rfl | rfl | rfl | rfl | rfl | rfl | rfl | rfl | rfl | h
    all_goals first
      | (simp [upd, ssF]; done)
      | (have z0 : i ≠ 0 := by omega
         have z1 : i ≠ 1 := by omega
         have z2 : i ≠ 2 := by omega
         have z3 : i ≠ 3 := by omega
         have z4 : i ≠ 4 := by omega
         have z5 : i ≠ 5 := by omega
         have z7 : i ≠ 7 := by omega
         have z8 : i ≠ 8 := by omega
         have z9 : i ≠ 9 := by omega
         simp [upd, ssF, z0, z1, z2, z3, z4, z5, z7, z8, z9]; done)
def capF (f : Nat → Int32) : Int64 := (f 7).toInt64 + (f 9).toInt64 * 65536
theorem z_capacity (hj : isP j) (kk : Q (some (.long (capF (σ j)))) (cw_B σ lam)) : cw_Z (d + 1) m_Part_capacity [.ref j] (cw_B σ lam) Q := by
  refine zi (L := [some (.ref j)]) rfl rfl (fun K hK => ?_)
  refine st_go hK rfl rfl ?_
  refine st_geti hK rfl (Part_f7 hj) ?_
  refine st_go hK rfl rfl ?_
  refine st_go hK rfl rfl ?_
  refine st_geti hK rfl (Part_f9 hj) ?_
  refine st_go hK rfl rfl ?_
  refine st_go hK rfl rfl ?_
  refine st_lbin hK rfl ?_
  refine st_lbin hK rfl ?_
  refine st_ret hK rfl rfl ?_
  exact kk
/-- where a node's part lies -/
theorem z_part {w : Nat} {n : Int32} (hw : isW w) (hn : cw_in n 15 = true) (kk : Q (some (.ref (w + 5 + n.toNatClampNeg))) (cw_B σ lam)) : cw_Z (d + 1) m_Wires_part [.ref w, .int n] (cw_B σ lam) Q := by
  have hn2 := cw_in_iff.mp hn
  have e0 : (0 : Int32).toInt = 0 := by decide
  have e15 : (15 : Int32).toInt = 15 := by decide
  rw [show w + 5 + n.toNatClampNeg = w + 5 + 1 * n.toNatClampNeg by omega] at kk
  refine zi (L := [some (.ref w), some (.int n)]) rfl rfl (fun K hK => ?_)
  refine st_go hK rfl rfl ?_
  refine st_if hK rfl rfl (fun c1 => ?_) (fun c1 => ?_)
  · rw [Int32.lt_iff_toInt_lt] at c1
    omega
  · refine st_go hK rfl rfl ?_
    refine st_go hK rfl rfl ?_
    refine st_if hK rfl rfl (fun c7 => ?_) (fun c7 => ?_)
    · rw [Int32.le_iff_toInt_le] at c7
      omega
    · refine st_go hK rfl rfl ?_
      refine st_getr hK rfl (Wires_f0 hw) ?_
      refine st_go hK rfl rfl ?_
      refine st_aald hK rfl (Wires_a0 hw) (by decide) hn ?_
      refine st_go hK rfl rfl ?_
      refine st_ret hK rfl rfl ?_
      exact kk
end
