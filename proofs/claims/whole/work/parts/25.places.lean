/-! PLACES -/
theorem hT1 : isT 1 := Or.inl rfl
theorem hW10 : isW 10 := Or.inl rfl
def movF (v lo hi : Int32) : Int32 := mx lo (mn hi v)
def dsF (u v x y : Int32) : Int32 := mx (ab (u - x)) (ab (v - y))
def dlF (w : Int32) (f : Nat → Int32) : Int64 := w.toInt64 * (w.toInt64 + 2 * capF f)
section
variable {d : Nat} {σ : cw_V} {lam : Nat → Int64} {Q : cw_Q}
theorem z_movedInto {a b c : Int32} {h : cw_H} (kk : Q (some (.int (movF a b c))) h) : cw_Z (d + 1) m_Places_movedInto [.int a, .int b, .int c] h Q := by
  refine zi (L := [some (.int a), some (.int b), some (.int c)]) rfl rfl (fun K hK => ?_)
  refine st_go hK rfl rfl ?_
  refine st_go hK rfl rfl ?_
  refine st_go hK rfl rfl ?_
  refine st_min hK rfl (Nat.le_of_ble_eq_true rfl) ?_
  refine st_max hK rfl (Nat.le_of_ble_eq_true rfl) ?_
  refine st_ret hK rfl rfl ?_
  exact kk
theorem z_distance {a b c e : Int32} {h : cw_H} (kk : Q (some (.int (dsF a b c e))) h) : cw_Z (d + 1) m_CW_distance [.int a, .int b, .int c, .int e] h Q := by
  refine zi (L := [some (.int a), some (.int b), some (.int c), some (.int e)]) rfl rfl (fun K hK => ?_)
  refine st_go hK rfl rfl ?_
  refine st_go hK rfl rfl ?_
  refine st_bin hK rfl ?_
  refine st_abs hK rfl (Nat.le_of_ble_eq_true rfl) ?_
  refine st_go hK rfl rfl ?_
  refine st_go hK rfl rfl ?_
  refine st_bin hK rfl ?_
  refine st_abs hK rfl (Nat.le_of_ble_eq_true rfl) ?_
  refine st_max hK rfl (Nat.le_of_ble_eq_true rfl) ?_
  refine st_ret hK rfl rfl ?_
  exact kk
theorem z_gridDistance {a b c e : Int32} {h : cw_H} (kk : Q (some (.int (dsF ((a + b) * 65536) ((a - b) * 65536) ((c + e) * 65536) ((c - e) * 65536)))) h) : cw_Z (d + 2) m_CW_gridDistance [.int a, .int b, .int c, .int e] h Q := by
  refine zi (L := [some (.int a), some (.int b), some (.int c), some (.int e)]) rfl rfl (fun K hK => ?_)
  refine st_go hK rfl rfl ?_
  refine st_go hK rfl rfl ?_
  refine st_bin hK rfl ?_
  refine st_go hK rfl rfl ?_
  refine st_bin hK rfl ?_
  refine st_go hK rfl rfl ?_
  refine st_go hK rfl rfl ?_
  refine st_bin hK rfl ?_
  refine st_go hK rfl rfl ?_
  refine st_bin hK rfl ?_
  refine st_go hK rfl rfl ?_
  refine st_go hK rfl rfl ?_
  refine st_bin hK rfl ?_
  refine st_go hK rfl rfl ?_
  refine st_bin hK rfl ?_
  refine st_go hK rfl rfl ?_
  refine st_go hK rfl rfl ?_
  refine st_bin hK rfl ?_
  refine st_go hK rfl rfl ?_
  refine st_bin hK rfl ?_
  refine cs4 hK rfl (Nat.le_of_ble_eq_true rfl) ?_
  refine z_distance ?_
  change K _ _ (_ :: _) _
  refine st_ret hK rfl rfl ?_
  exact kk
theorem z_delayOf {a : Int32} {p : Nat} (hp : isP p) (kk : Q (some (.long (dlF a (σ p)))) (cw_B σ lam)) : cw_Z (d + 2) m_Places_delayOf [.int a, .ref p] (cw_B σ lam) Q := by
  refine zi (L := [some (.int a), some (.ref p)]) rfl rfl (fun K hK => ?_)
  refine st_go hK rfl rfl ?_
  refine st_go hK rfl rfl ?_
  refine st_go hK rfl rfl ?_
  refine st_go hK rfl rfl ?_
  refine st_go hK rfl rfl ?_
  refine st_go hK rfl rfl ?_
  refine cv0 hK rfl (Part_c hp) (Nat.le_of_ble_eq_true rfl) ?_
  refine z_capacity hp ?_
  change K _ _ (_ :: _) _
  refine st_lbin hK rfl ?_
  refine st_lbin hK rfl ?_
  refine st_lbin hK rfl ?_
  refine st_ret hK rfl rfl ?_
  exact kk
theorem cw_in_mono {i : Int32} (h : cw_in i 8 = true) : cw_in i 15 = true := by
  rw [cw_in_iff] at h ⊢
  omega
theorem z_arrivalOf {k : Int32} (hk : hSink σ 1 k) (kk : Q (some (.int (σ 34 (nd k) + σ (1 + 3) (nd k) * 65536))) (cw_B σ lam)) : cw_Z (d + 2) m_Places_arrivalOf [.ref 30, .ref 1, .int k] (cw_B σ lam) Q := by
  refine zi (L := [some (.ref 30), some (.ref 1), some (.int k)]) rfl rfl (fun K hK => ?_)
  refine st_go hK rfl rfl ?_
  refine st_go hK rfl rfl ?_
  refine cv1 hK rfl (Tree_c hT1) (Nat.le_of_ble_eq_true rfl) ?_
  refine z_hasSink hT1 (fun _ => ?_) (fun z => absurd hk z)
  change K _ _ (_ :: _) _
  refine st_if hK rfl rfl (fun c => absurd c (by decide)) (fun _ => ?_)
  refine st_go hK rfl rfl ?_
  refine st_getr hK rfl rfl ?_
  refine st_go hK rfl rfl ?_
  refine st_iald hK rfl rfl (cw_in_mono hk.in) ?_
  refine st_go hK rfl rfl ?_
  refine st_getr hK rfl (Tree_f2 hT1) ?_
  refine st_go hK rfl rfl ?_
  refine st_iald hK rfl (Tree_a2 hT1) hk.in ?_
  refine st_go hK rfl rfl ?_
  refine st_bin hK rfl ?_
  refine st_bin hK rfl ?_
  refine st_go hK rfl rfl ?_
  refine st_ret hK rfl rfl ?_
  exact kk
/-- the greatest minus the least of f 0 .. f (m) -/
def sprF (f : Nat → Int32) : Nat → Nat → Int32 × Int32 → Int32 × Int32
  | 0, _, s => s
  | m + 1, i, s => sprF f m (i + 1) (mn s.1 (f i), mx s.2 (f i))
def arF (σ : cw_V) (k : Nat) : Int32 := σ 34 k + σ (1 + 3) k * 65536
theorem hSink_nI {σ : cw_V} {t s i : Nat} (hs : σ t 8 = nI s) (h8 : s ≤ 8) (hi : i < s) : hSink σ t (nI i) := by
  refine ⟨nI_pos' (by omega), ?_, (lit_lt (a := 8) (by decide) (by omega)).mpr (by omega)⟩
  rw [hs]
  exact nI_lt hi (by omega)
theorem z_setSpread {s : Nat} (hs : σ 1 8 = nI s) (h8 : s ≤ 8) (h0 : 0 < s) (kk : Q none (cw_B (cw_up σ 30 9 ((sprF (arF σ) (s - 1) 1 (arF σ 0, arF σ 0)).2 - (sprF (arF σ) (s - 1) 1 (arF σ 0, arF σ 0)).1)) lam)) : cw_Z (d + 3) m_Places_setSpread [.ref 30, .ref 1] (cw_B σ lam) Q := by
  refine zi (L := [some (.ref 30), some (.ref 1), none, none, none]) rfl rfl (fun K hK => ?_)
  have hS : ∀ i, i < s → hSink σ 1 (nI i) := fun i hi => hSink_nI hs h8 hi
  have loop : ∀ m i (q : Int32 × Int32), i + m = s → sprF (arF σ) m i q = sprF (arF σ) (s - 1) 1 (arF σ 0, arF σ 0) → K 12 [some (.ref 30), some (.ref 1), some (.int q.1), some (.int q.2), some (.int (nI i))] [] (cw_B σ lam) := by
    intro m
    induction m with
    | zero =>
      intro i q hi e
      have e' : q = sprF (arF σ) (s - 1) 1 (arF σ 0, arF σ 0) := e
      subst e'
      refine st_go hK rfl rfl ?_
      refine st_go hK rfl rfl ?_
      refine st_geti hK rfl (Tree_f8 hT1) ?_
      rw [hs]
      refine st_if hK rfl rfl (fun _ => ?_) (fun c => absurd ((nI_leI (by omega) (by omega)).mpr (by omega)) c)
      refine st_go hK rfl rfl ?_
      refine st_go hK rfl rfl ?_
      refine st_go hK rfl rfl ?_
      refine st_bin hK rfl ?_
      refine st_put hK rfl rfl rfl ?_
      refine st_ret hK rfl rfl ?_
      exact kk
    | succ m ih =>
      intro i q hi e
      refine st_go hK rfl rfl ?_
      refine st_go hK rfl rfl ?_
      refine st_geti hK rfl (Tree_f8 hT1) ?_
      rw [hs]
      refine st_if hK rfl rfl (fun c => absurd ((nI_leI (by omega) (by omega)).mp c) (by omega)) (fun _ => ?_)
      refine st_go hK rfl rfl ?_
      refine st_go hK rfl rfl ?_
      refine st_go hK rfl rfl ?_
      refine st_go hK rfl rfl ?_
      refine cv2 hK rfl rfl (Nat.le_of_ble_eq_true rfl) ?_
      refine z_arrivalOf (hS i (by omega)) ?_
      change K _ _ (_ :: _) _
      refine st_min hK rfl (Nat.le_of_ble_eq_true rfl) ?_
      refine st_go hK rfl rfl ?_
      refine st_go hK rfl rfl ?_
      refine st_go hK rfl rfl ?_
      refine st_go hK rfl rfl ?_
      refine st_go hK rfl rfl ?_
      refine cv2 hK rfl rfl (Nat.le_of_ble_eq_true rfl) ?_
      refine z_arrivalOf (hS i (by omega)) ?_
      change K _ _ (_ :: _) _
      refine st_max hK rfl (Nat.le_of_ble_eq_true rfl) ?_
      refine st_go hK rfl rfl ?_
      refine st_go hK rfl rfl ?_
      refine st_go hK rfl rfl ?_
      change K 12 [some (.ref 30), some (.ref 1), some (.int (mn q.1 (σ 34 (nd (nI i)) + σ (1 + 3) (nd (nI i)) * 65536))), some (.int (mx q.2 (σ 34 (nd (nI i)) + σ (1 + 3) (nd (nI i)) * 65536))), some (.int (nI i + 1))] [] (cw_B σ lam)
      rw [show nd (nI i) = i from nI_clamp (by omega)]
      have := ih (i + 1) (mn q.1 (arF σ i), mx q.2 (arF σ i)) (by omega) e
      rw [← nI_1] at this
      dsimp only at this
      exact this
  refine st_go hK rfl rfl ?_
  refine st_go hK rfl rfl ?_
  refine st_go hK rfl rfl ?_
  refine cv2 hK rfl rfl (Nat.le_of_ble_eq_true rfl) ?_
  refine z_arrivalOf (hS 0 h0) ?_
  change K _ _ (_ :: _) _
  refine st_go hK rfl rfl ?_
  refine st_go hK rfl rfl ?_
  refine st_go hK rfl rfl ?_
  refine st_go hK rfl rfl ?_
  refine st_go hK rfl rfl ?_
  exact loop (s - 1) 1 (arF σ 0, arF σ 0) (by omega) rfl
end
