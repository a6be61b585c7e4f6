/-! RULES: how a closed K is walked, over the store -/
abbrev cw_Q : Type := Option Value → cw_H → Prop
abbrev cw_KT : Type := Nat → cw_L → List Value → cw_H → Prop
abbrev cw_Kc (d M : Nat) (h0 : cw_H) (Q : cw_Q) (K : cw_KT) : Prop := cw_Cl cw_tb cw_cM cw_sM (cw_Z d) (d + 1) M h0 Q K
theorem zi {d M : Nat} {as : List Value} {h : cw_H} {Q : cw_Q} {L : cw_L} (ho : cw_aok (cw_mx M) as = true) (hL : cw_entry (cw_mx M) as = L) (k : ∀ K : cw_KT, cw_Kc d M h Q K → K 0 L [] h) : cw_Z (d + 1) M as h Q := by
  subst hL
  exact ⟨ho, k⟩
theorem zmono {d M : Nat} {as : List Value} {h : cw_H} {Q Q' : cw_Q} (hX : cw_Z d M as h Q) (hQ : ∀ r g, Q r g → Q' r g) : cw_Z d M as h Q' := cw_X_mono d M as h Q Q' hQ hX
section
variable {d M : Nat} {h0 : cw_H} {Q : cw_Q} {K : cw_KT} {pc nx : Nat} {L L' : cw_L} {S S' : List Value} {h h' : cw_H} {σ : cw_V} {lam : Nat → Int64}
theorem st_go {sem : cw_S} (hK : cw_Kc d M h0 Q K) (hf : cw_tb M pc = some sem) (hs : sem (d + 1) L S h = cw_go nx L' S' h') (k : K nx L' S' h') : K pc L S h := hK pc L S h sem hf (by rw [hs]; exact k)
theorem st_if {sem : cw_S} {P : Prop} {inst : Decidable P} {t f : Nat} (hK : cw_Kc d M h0 Q K) (hf : cw_tb M pc = some sem) (hs : sem (d + 1) L S h = cw_br (@decide P inst) t f L' S' h') (kt : P → K t L' S' h') (kf : ¬ P → K f L' S' h') : K pc L S h := hK pc L S h sem hf (by rw [hs]; exact ⟨fun e => kt (of_decide_eq_true e), fun e => kf (of_decide_eq_false e)⟩)
theorem st_ret {sem : cw_S} {r : Option Value} (hK : cw_Kc d M h0 Q K) (hf : cw_tb M pc = some sem) (hs : sem (d + 1) L S h = cw_re r h') (k : Q r h') : K pc L S h := hK pc L S h sem hf (by rw [hs]; exact k)
theorem st_zret {x : Int32} (hK : cw_Kc d M h0 Q K) (hf : cw_tb M pc = some s_zret) (hx : x = 0 ∨ x = 1) (k : Q (some (.int x)) h) : K pc L [.int x] h := hK pc L _ h _ hf (by show cw_wp _ _ _ _ _ _ _ (if _ then _ else _); rw [if_pos hx]; exact k)
theorem st_geti {p ci k : Nat} (hK : cw_Kc d M h0 Q K) (hf : cw_tb M pc = some (s_get ci k nx)) (hs : cw_fR p ci k = some none) (kk : K nx L (.int (σ p k) :: S) (cw_B σ lam)) : K pc L (.ref p :: S) (cw_B σ lam) := by
  refine hK pc L _ _ _ hf ?_
  obtain ⟨hp, fs, h1, h2⟩ := cw_fR_is hs
  have h3 : (cw_B σ lam)[p]? = some (.inr (ci, cw_fv σ p 0 fs)) := by rw [cw_B_get hp, h1]; rfl
  have h4 := cw_fv_get (σ := σ) (p := p) fs 0 k none h2
  unfold s_get
  simp only [h3, if_true, h4]
  rw [Nat.zero_add]
  exact kk
theorem st_getr {p ci k r : Nat} (hK : cw_Kc d M h0 Q K) (hf : cw_tb M pc = some (s_get ci k nx)) (hs : cw_fR p ci k = some (some r)) (kk : K nx L (.ref r :: S) (cw_B σ lam)) : K pc L (.ref p :: S) (cw_B σ lam) := by
  refine hK pc L _ _ _ hf ?_
  obtain ⟨hp, fs, h1, h2⟩ := cw_fR_is hs
  have h3 : (cw_B σ lam)[p]? = some (.inr (ci, cw_fv σ p 0 fs)) := by rw [cw_B_get hp, h1]; rfl
  have h4 := cw_fv_get (σ := σ) (p := p) fs 0 k (some r) h2
  unfold s_get
  simp only [h3, if_true, h4]
  exact kk
theorem st_put {p ci k kd : Nat} {x : Int32} (hK : cw_Kc d M h0 Q K) (hf : cw_tb M pc = some (s_put ci k kd nx)) (hs : cw_fR p ci k = some none) (ht : cw_takes kd (.int x) = true) (kk : K nx L S (cw_B (cw_up σ p k x) lam)) : K pc L (.int x :: .ref p :: S) (cw_B σ lam) := by
  refine hK pc L _ _ _ hf ?_
  obtain ⟨hp, fs, h1, h2⟩ := cw_fR_is hs
  have h3 : (cw_B σ lam)[p]? = some (.inr (ci, cw_fv σ p 0 fs)) := by rw [cw_B_get hp, h1]; rfl
  have hl : k < (cw_fv σ p 0 fs).length := by rw [cw_fv_len]; exact (List.getElem?_eq_some_iff.mp h2).1
  unfold s_put
  simp only [h3, ht, hl, and_self, if_true]
  rw [cw_fv_set fs 0 k h2, Nat.zero_add]
  rw [cw_B_set (σ' := cw_up σ p k x) hp (by rw [h1]; rfl) (fun q hq => by unfold cw_up; rw [if_neg hq])]
  exact kk
theorem st_iald {p n b st : Nat} {i : Int32} (hK : cw_Kc d M h0 Q K) (hf : cw_tb M pc = some (s_iald nx)) (hs : cw_aR p = some (0, n, b, st)) (hi : cw_in i n = true) (kk : K nx L (.int (σ p i.toNatClampNeg) :: S) (cw_B σ lam)) : K pc L (.int i :: .ref p :: S) (cw_B σ lam) := by
  refine hK pc L _ _ _ hf ?_
  obtain ⟨hp, h1⟩ := cw_aR_is hs
  have h3 : (cw_B σ lam)[p]? = some (.inl (0, n, .inl (σ p))) := by rw [cw_B_get hp, h1]; rfl
  unfold s_iald
  simp only [h3, hi, if_true]
  exact kk
theorem st_iast {p n b st : Nat} {i x : Int32} (hK : cw_Kc d M h0 Q K) (hf : cw_tb M pc = some (s_iast nx)) (hs : cw_aR p = some (0, n, b, st)) (hi : cw_in i n = true) (kk : K nx L S (cw_B (cw_up σ p i.toNatClampNeg x) lam)) : K pc L (.int x :: .int i :: .ref p :: S) (cw_B σ lam) := by
  refine hK pc L _ _ _ hf ?_
  obtain ⟨hp, h1⟩ := cw_aR_is hs
  have h3 : (cw_B σ lam)[p]? = some (.inl (0, n, .inl (σ p))) := by rw [cw_B_get hp, h1]; rfl
  unfold s_iast
  simp only [h3, hi, if_true]
  rw [cw_B_set (σ' := cw_up σ p i.toNatClampNeg x) hp (by rw [h1]; show _ = Sum.inl (0, n, Sum.inl (cw_up σ p i.toNatClampNeg x p)); unfold cw_up; rw [if_pos rfl]) (fun q hq => by unfold cw_up; rw [if_neg hq])]
  exact kk
theorem st_lald {p n b st : Nat} {i : Int32} (hK : cw_Kc d M h0 Q K) (hf : cw_tb M pc = some (s_lald nx)) (hs : cw_aR p = some (1, n, b, st)) (hi : cw_in i n = true) (kk : K nx L (.long (lam i.toNatClampNeg) :: S) (cw_B σ lam)) : K pc L (.int i :: .ref p :: S) (cw_B σ lam) := by
  refine hK pc L _ _ _ hf ?_
  obtain ⟨hp, h1⟩ := cw_aR_is hs
  have h3 : (cw_B σ lam)[p]? = some (.inl (1, n, .inr (.inl lam))) := by rw [cw_B_get hp, h1]; rfl
  unfold s_lald
  simp only [h3, hi, if_true]
  exact kk
theorem st_last {i : Int32} {x : Int64} (hK : cw_Kc d M h0 Q K) (hf : cw_tb M pc = some (s_last nx)) (hi : cw_in i 15 = true) (kk : K nx L S (cw_B σ (vp_updL lam i.toNatClampNeg x))) : K pc L (.long x :: .int i :: .ref 35 :: S) (cw_B σ lam) := by
  refine hK pc L _ _ _ hf ?_
  have h3 : (cw_B σ lam)[35]? = some (.inl (1, 15, .inr (.inl lam))) := by rw [cw_B_get (by decide)]; rfl
  unfold s_last
  simp only [h3, hi, if_true]
  have : (cw_B σ lam).set 35 (.inl (1, 15, .inr (.inl (vp_updL lam i.toNatClampNeg x)))) = cw_B σ (vp_updL lam i.toNatClampNeg x) := by
    apply List.ext_getElem?
    intro j
    rw [List.getElem?_set]
    have hl : (cw_B σ lam).length = 175 := by simp [cw_B]
    split
    · rename_i e
      subst e
      rw [hl, if_pos (by decide), cw_B_get (by decide)]
      rfl
    · rename_i e
      rcases Nat.lt_or_ge j 175 with q | q
      · rw [cw_B_get q, cw_B_get q]
        have hone : ∀ p, p < 175 → p ≠ 35 → ∀ a, cw_shp p = .inr a → a.1 ≠ 1 := by
          intro p hp hne a ha
          have hall : (List.range 175).all (fun p => Nat.beq p 35 || (match cw_shp p with
            | .inr a => !(Nat.beq a.1 1)
            | .inl _ => true)) = true := by decide +kernel
          have h5 := List.all_eq_true.mp hall p (List.mem_range.mpr hp)
          rw [ha] at h5
          have h6 : Nat.beq p 35 = false := by
            cases e : Nat.beq p 35 with
            | true => exact absurd (Nat.eq_of_beq_eq_true e) hne
            | false => rfl
          rw [h6] at h5
          intro h7
          have h8 : (false || !(Nat.beq a.1 1)) = true := h5
          rw [h7] at h8
          exact absurd h8 (by decide)
        cases hs : cw_shp j with
        | inl o => rfl
        | inr a =>
          obtain ⟨t, n, b, s⟩ := a
          have := hone j q (fun z => e z.symm) _ hs
          match t, this with
          | 0, _ => rfl
          | 1, h => exact absurd rfl h
          | t + 2, _ => rfl
      · rw [List.getElem?_eq_none (by simp [cw_B]; exact q), List.getElem?_eq_none (by simp [cw_B]; exact q)]
  rw [this]
  exact kk
theorem st_aald {p t n b st : Nat} {i : Int32} (hK : cw_Kc d M h0 Q K) (hf : cw_tb M pc = some (s_aald nx)) (hs : cw_aR p = some (t + 2, n, b, st)) (ht : t < 2) (hi : cw_in i n = true) (kk : K nx L (.ref (b + st * i.toNatClampNeg) :: S) (cw_B σ lam)) : K pc L (.int i :: .ref p :: S) (cw_B σ lam) := by
  refine hK pc L _ _ _ hf ?_
  obtain ⟨hp, h1⟩ := cw_aR_is hs
  have h3 : (cw_B σ lam)[p]? = some (.inl (t + 2, n, .inr (.inr (.inr (.inr (cw_rq n b st)))))) := by rw [cw_B_get hp, h1]; rfl
  have h4 : cw_rq n b st i.toNatClampNeg = some (b + st * i.toNatClampNeg) := by
    unfold cw_rq
    unfold cw_in at hi
    simp only [Bool.and_eq_true, decide_eq_true_eq] at hi
    rw [if_pos hi.2]
  unfold s_aald
  simp only [h3, hi, ht, and_self, if_true, h4]
  exact kk
theorem st_alen {p t n b st : Nat} (hK : cw_Kc d M h0 Q K) (hf : cw_tb M pc = some (s_alen nx)) (hs : cw_aR p = some (t, n, b, st)) (ht : t = 0) (kk : K nx L (.int (Int32.ofNat n) :: S) (cw_B σ lam)) : K pc L (.ref p :: S) (cw_B σ lam) := by
  refine hK pc L _ _ _ hf ?_
  obtain ⟨hp, h1⟩ := cw_aR_is hs
  subst ht
  have h3 : (cw_B σ lam)[p]? = some (.inl (0, n, .inl (σ p))) := by rw [cw_B_get hp, h1]; rfl
  unfold s_alen
  simp only [h3]
  exact kk
theorem st_copy {p q n0 n1 b0 b1 s0 s1 : Nat} {sp dp n : Int32} (hK : cw_Kc d M h0 Q K) (hf : cw_tb M pc = some (s_copy nx)) (hp0 : cw_aR p = some (0, n0, b0, s0)) (hq0 : cw_aR q = some (0, n1, b1, s1)) (hc : cw_ct S ≤ 8) (h1 : ¬ sp < 0) (h2 : ¬ dp < 0) (h3 : ¬ n < 0) (h4 : sp.toNatClampNeg + n.toNatClampNeg ≤ n0) (h5 : dp.toNatClampNeg + n.toNatClampNeg ≤ n1)
    (kk : K nx L S (cw_B (fun r => if r = q then va_cpy (σ p) (σ q) sp.toNatClampNeg dp.toNatClampNeg n.toNatClampNeg else σ r) lam)) : K pc L (.int n :: .int dp :: .ref q :: .int sp :: .ref p :: S) (cw_B σ lam) := by
  refine hK pc L _ _ _ hf ?_
  obtain ⟨hp, e1⟩ := cw_aR_is hp0
  obtain ⟨hq, e2⟩ := cw_aR_is hq0
  have g1 : (cw_B σ lam)[p]? = some (.inl (0, n0, .inl (σ p))) := by rw [cw_B_get hp, e1]; rfl
  have g2 : (cw_B σ lam)[q]? = some (.inl (0, n1, .inl (σ q))) := by rw [cw_B_get hq, e2]; rfl
  unfold s_copy
  simp only [g1, g2, hc, h1, h2, h3, h4, h5, Nat.zero_lt_succ, not_false_eq_true, and_self, if_true]
  rw [cw_B_set (σ' := fun r => if r = q then va_cpy (σ p) (σ q) sp.toNatClampNeg dp.toNatClampNeg n.toNatClampNeg else σ r) hq (by rw [e2]; show _ = Sum.inl (0, n1, Sum.inl (if q = q then _ else σ q)); rw [if_pos rfl]) (fun r hr => if_neg hr)]
  exact kk
theorem st_max {x y : Int32} (hK : cw_Kc d M h0 Q K) (hf : cw_tb M pc = some (s_max nx)) (hc : cw_ct S ≤ 8) (kk : K nx L (.int (if x < y then y else x) :: S) h) : K pc L (.int y :: .int x :: S) h := by
  refine hK pc L _ _ _ hf ?_
  unfold s_max
  simp only [hc, Nat.zero_lt_succ, and_self, if_true]
  exact kk
theorem st_min {x y : Int32} (hK : cw_Kc d M h0 Q K) (hf : cw_tb M pc = some (s_min nx)) (hc : cw_ct S ≤ 8) (kk : K nx L (.int (if y < x then y else x) :: S) h) : K pc L (.int y :: .int x :: S) h := by
  refine hK pc L _ _ _ hf ?_
  unfold s_min
  simp only [hc, Nat.zero_lt_succ, and_self, if_true]
  exact kk
theorem st_abs {x : Int32} (hK : cw_Kc d M h0 Q K) (hf : cw_tb M pc = some (s_abs nx)) (hc : cw_ct S ≤ 8) (kk : K nx L (.int (if 0 ≤ x then x else 0 - x) :: S) h) : K pc L (.int x :: S) h := by
  refine hK pc L _ _ _ hf ?_
  unfold s_abs
  simp only [hc, Nat.zero_lt_succ, and_self, if_true]
  exact kk
theorem st_bin {x y : Int32} {f : Int32 → Int32 → Int32} (hK : cw_Kc d M h0 Q K) (hf : cw_tb M pc = some (s_ibin f nx)) (kk : K nx L (.int (f x y) :: S) h) : K pc L (.int y :: .int x :: S) h := hK pc L _ _ _ hf kk
theorem st_lbin {x y : Int64} {f : Int64 → Int64 → Int64} (hK : cw_Kc d M h0 Q K) (hf : cw_tb M pc = some (s_lbin f nx)) (kk : K nx L (.long (f x y) :: S) h) : K pc L (.long y :: .long x :: S) h := hK pc L _ _ _ hf kk
theorem st_div {x y : Int32} {f : Int32 → Int32 → Int32} (hK : cw_Kc d M h0 Q K) (hf : cw_tb M pc = some (s_idiv f nx)) (hy : ¬ y = 0) (kk : K nx L (.int (f x y) :: S) h) : K pc L (.int y :: .int x :: S) h := by
  refine hK pc L _ _ _ hf ?_
  unfold s_idiv
  simp only [hy, if_false]
  exact kk
theorem st_callV {ci M' n p : Nat} {as : List Value} (hK : cw_Kc d M h0 Q K) (hf : cw_tb M pc = some (s_callV ci M' n nx)) (hc : cw_cR p = some ci) (hn : as.length = n) (hct : cw_ct S ≤ 8) (k : cw_Z d M' (.ref p :: as) (cw_B σ lam) (fun r h' => K nx L (r.toList ++ S) h')) : K pc L (as.reverse ++ .ref p :: S) (cw_B σ lam) := by
  refine hK pc L _ _ _ hf ?_
  obtain ⟨hp, fs, h1⟩ := cw_cR_is hc
  have h3 : (cw_B σ lam)[p]? = some (.inr (ci, cw_fv σ p 0 fs)) := by rw [cw_B_get hp, h1]; rfl
  have h4 : cw_pop n (as.reverse ++ .ref p :: S) = (as, .ref p :: S) := by
    subst hn
    unfold cw_pop
    rw [List.take_append_of_le_length (by simp), List.drop_append_of_le_length (by simp)]
    simp [List.take_of_length_le]
  unfold s_callV
  simp only [h4, h3, hct, Nat.zero_lt_succ, true_and]
  rw [if_pos (by simp; omega)]
  exact k
theorem st_callS {M' n : Nat} {as : List Value} (hK : cw_Kc d M h0 Q K) (hf : cw_tb M pc = some (s_callS M' n nx)) (hn : as.length = n) (hct : cw_ct S ≤ 8) (k : cw_Z d M' as h (fun r h' => K nx L (r.toList ++ S) h')) : K pc L (as.reverse ++ S) h := by
  refine hK pc L _ _ _ hf ?_
  have h4 : cw_pop n (as.reverse ++ S) = (as, S) := by
    subst hn
    unfold cw_pop
    rw [List.take_append_of_le_length (by simp), List.drop_append_of_le_length (by simp)]
    simp [List.take_of_length_le]
  unfold s_callS
  simp only [h4, hct, Nat.zero_lt_succ, true_and]
  rw [if_pos (by simp; omega)]
  exact k
theorem cv0 {ci M' p : Nat} (hK : cw_Kc d M h0 Q K) (hf : cw_tb M pc = some (s_callV ci M' 0 nx)) (hc : cw_cR p = some ci) (hct : cw_ct S ≤ 8) (k : cw_Z d M' [.ref p] (cw_B σ lam) (fun r h' => K nx L (r.toList ++ S) h')) : K pc L (.ref p :: S) (cw_B σ lam) := st_callV (as := []) hK hf hc rfl hct k
theorem cv1 {ci M' p : Nat} {a : Value} (hK : cw_Kc d M h0 Q K) (hf : cw_tb M pc = some (s_callV ci M' 1 nx)) (hc : cw_cR p = some ci) (hct : cw_ct S ≤ 8) (k : cw_Z d M' [.ref p, a] (cw_B σ lam) (fun r h' => K nx L (r.toList ++ S) h')) : K pc L (a :: .ref p :: S) (cw_B σ lam) := st_callV (as := [a]) hK hf hc rfl hct k
theorem cv2 {ci M' p : Nat} {a b : Value} (hK : cw_Kc d M h0 Q K) (hf : cw_tb M pc = some (s_callV ci M' 2 nx)) (hc : cw_cR p = some ci) (hct : cw_ct S ≤ 8) (k : cw_Z d M' [.ref p, a, b] (cw_B σ lam) (fun r h' => K nx L (r.toList ++ S) h')) : K pc L (b :: a :: .ref p :: S) (cw_B σ lam) := st_callV (as := [a, b]) hK hf hc rfl hct k
theorem cv3 {ci M' p : Nat} {a b c : Value} (hK : cw_Kc d M h0 Q K) (hf : cw_tb M pc = some (s_callV ci M' 3 nx)) (hc : cw_cR p = some ci) (hct : cw_ct S ≤ 8) (k : cw_Z d M' [.ref p, a, b, c] (cw_B σ lam) (fun r h' => K nx L (r.toList ++ S) h')) : K pc L (c :: b :: a :: .ref p :: S) (cw_B σ lam) := st_callV (as := [a, b, c]) hK hf hc rfl hct k
theorem cs1 {M' : Nat} {a : Value} (hK : cw_Kc d M h0 Q K) (hf : cw_tb M pc = some (s_callS M' 1 nx)) (hct : cw_ct S ≤ 8) (k : cw_Z d M' [a] h (fun r h' => K nx L (r.toList ++ S) h')) : K pc L (a :: S) h := st_callS (as := [a]) hK hf rfl hct k
theorem cs2 {M' : Nat} {a b : Value} (hK : cw_Kc d M h0 Q K) (hf : cw_tb M pc = some (s_callS M' 2 nx)) (hct : cw_ct S ≤ 8) (k : cw_Z d M' [a, b] h (fun r h' => K nx L (r.toList ++ S) h')) : K pc L (b :: a :: S) h := st_callS (as := [a, b]) hK hf rfl hct k
theorem cs3 {M' : Nat} {a b c : Value} (hK : cw_Kc d M h0 Q K) (hf : cw_tb M pc = some (s_callS M' 3 nx)) (hct : cw_ct S ≤ 8) (k : cw_Z d M' [a, b, c] h (fun r h' => K nx L (r.toList ++ S) h')) : K pc L (c :: b :: a :: S) h := st_callS (as := [a, b, c]) hK hf rfl hct k
theorem cs4 {M' : Nat} {a b c e : Value} (hK : cw_Kc d M h0 Q K) (hf : cw_tb M pc = some (s_callS M' 4 nx)) (hct : cw_ct S ≤ 8) (k : cw_Z d M' [a, b, c, e] h (fun r h' => K nx L (r.toList ++ S) h')) : K pc L (e :: c :: b :: a :: S) h := st_callS (as := [a, b, c, e]) hK hf rfl hct k
end
