/-! WHAT RUNS IS MET -/
def cxC (d : Nat) : Nat → List Value → cw_H → cw_Q → Prop := match d with
  | 0 => fun _ _ _ _ => False
  | d + 1 => cw_X cw_tb cw_mx cw_cM cw_sM d
theorem cx_of {d M : Nat} {as : List Value} {h : cw_H} {Q : cw_Q} (h1 : cw_aok (cw_mx M) as = true) (h2 : ∀ K, cw_Cl cw_tb cw_cM cw_sM (cxC d) d M h Q K → K 0 (cw_entry (cw_mx M) as) [] h) : cw_X cw_tb cw_mx cw_cM cw_sM d M as h Q := by
  cases d with
  | zero => exact ⟨h1, h2⟩
  | succ d => exact ⟨h1, h2⟩
theorem ev_sound : ∀ (n d M : Nat) (h0 : cw_H) (Q : cw_Q) (K : cw_KT), cw_Cl cw_tb cw_cM cw_sM (cxC d) d M h0 Q K → ∀ (pc : Nat) (L : cw_L) (S : List Value) (h : cw_H) (r : Option Value) (h' : cw_H), cw_ev n d M (h0.length + cw_cM M) (cw_sl h0 + cw_sM M) pc L S h = some (r, h') → Q r h' → K pc L S h := by
  intro n
  induction n with
  | zero =>
    intro d M h0 Q K hK pc L S h r h' e hQ
    unfold cw_ev at e
    cases e
  | succ n ih =>
    intro d M h0 Q K hK pc L S h r h' e hQ
    unfold cw_ev at e
    cases e1 : cw_tb M pc with
    | none => rw [e1] at e; cases e
    | some sem =>
      rw [e1] at e
      dsimp only at e
      cases e2 : sem d L S h with
      | none => rw [e2] at e; cases e
      | some a =>
        rw [e2] at e
        refine hK pc L S h sem e1 ?_
        rw [e2]
        rcases a with ⟨pc1, L1, S1, h1⟩ | ⟨b, t, f, L1, S1, h1⟩ | ⟨M1, as1, pc1, L1, S1, h1⟩ | ⟨r1, h1⟩ | ⟨c1, k1, pc1, L1, S1, h1⟩ | ⟨M1, as1, pc1, L1, S1, h1⟩
        · exact ih d M h0 Q K hK pc1 L1 S1 h1 r h' e hQ
        · cases b with
          | true => exact ⟨fun _ => ih d M h0 Q K hK t L1 S1 h1 r h' e hQ, fun z => by cases z⟩
          | false => exact ⟨fun z => (by cases z), fun _ => ih d M h0 Q K hK f L1 S1 h1 r h' e hQ⟩
        · cases d with
          | zero => cases e
          | succ d =>
            dsimp only at e
            cases ea : cw_aok (cw_mx M1) as1 with
            | false => rw [ea] at e; cases e
            | true =>
              rw [ea] at e
              dsimp only [cond_true] at e
              cases ec : cw_ev n d M1 (h1.length + cw_cM M1) (cw_sl h1 + cw_sM M1) 0 (cw_entry (cw_mx M1) as1) [] h1 with
              | none => rw [ec] at e; cases e
              | some p =>
                obtain ⟨r2, h2⟩ := p
                rw [ec] at e
                dsimp only at e
                exact cx_of ea (fun K' hK' => ih d M1 h1 _ K' hK' 0 _ [] h1 r2 h2 ec (ih (d + 1) M h0 Q K hK pc1 L1 (r2.toList ++ S1) h2 r h' e hQ))
        · cases e
          exact hQ
        · dsimp only at e
          cases eb : (Nat.ble (h1.length + 1) (h0.length + cw_cM M) && (Nat.ble (cw_sl h1 + k1) (cw_sl h0 + cw_sM M) && (cw_ho h1.length h1 && (cw_lo h1.length L1 && cw_so h1.length S1)))) with
          | false => rw [eb] at e; cases e
          | true =>
            rw [eb] at e
            dsimp only [cond_true] at e
            simp only [Bool.and_eq_true] at eb
            exact ⟨⟨Nat.le_of_ble_eq_true eb.1, Nat.le_of_ble_eq_true eb.2.1, eb.2.2.1, eb.2.2.2.1, eb.2.2.2.2⟩, ih d M h0 Q K hK pc1 L1 (.ref h1.length :: S1) (h1 ++ [c1]) r h' e hQ⟩
        · cases d with
          | zero => cases e
          | succ d =>
            dsimp only at e
            cases eb : (cw_aok (cw_mx M1) as1 && (Nat.ble (h1.length + cw_cM M1) (h0.length + cw_cM M) && (Nat.ble (cw_sl h1 + cw_sM M1) (cw_sl h0 + cw_sM M) && (cw_ho h1.length h1 && (cw_lo h1.length L1 && cw_so h1.length S1))))) with
            | false => rw [eb] at e; cases e
            | true =>
              rw [eb] at e
              dsimp only [cond_true] at e
              simp only [Bool.and_eq_true] at eb
              cases ec : cw_ev n d M1 (h1.length + cw_cM M1) (cw_sl h1 + cw_sM M1) 0 (cw_entry (cw_mx M1) as1) [] h1 with
              | none => rw [ec] at e; cases e
              | some p =>
                obtain ⟨r2, h2⟩ := p
                rw [ec] at e
                cases r2 with
                | some v => cases e
                | none =>
                  dsimp only at e
                  cases el : (Nat.beq h2.length (h1.length + cw_cM M1) && Nat.beq (cw_sl h2) (cw_sl h1 + cw_sM M1)) with
                  | false => rw [el] at e; cases e
                  | true =>
                    rw [el] at e
                    dsimp only [cond_true] at e
                    simp only [Bool.and_eq_true] at el
                    refine ⟨⟨Nat.le_of_ble_eq_true eb.2.1, Nat.le_of_ble_eq_true eb.2.2.1, eb.2.2.2.1, eb.2.2.2.2.1, eb.2.2.2.2.2⟩, ?_⟩
                    exact cx_of eb.1 (fun K' hK' => ih d M1 h1 _ K' hK' 0 _ [] h1 none h2 ec ⟨rfl, Nat.eq_of_beq_eq_true el.1, Nat.eq_of_beq_eq_true el.2, ih (d + 1) M h0 Q K hK pc1 L1 S1 h2 r h' e hQ⟩)
theorem run_Z {M p : Nat} {h h' : cw_H} (e : runC M p h = some (none, h')) (ha : cw_aok (cw_mx M) [.ref p] = true) : cw_Z 12 M [.ref p] h (fun r g => r = none ∧ g = h') :=
  cx_of ha (fun K hK => ev_sound 100000 12 M h _ K hK 0 _ [] h none h' e ⟨rfl, rfl⟩)
/-- equal as far as rows reach -/
def celE (c e : cw_C) : Prop := match c, e with
  | .inr (k, fs), .inr (k', fs') => k = k' ∧ fs = fs'
  | .inl (t, n, .inl f), .inl (t', n', .inl f') => t = t' ∧ n = n' ∧ ∀ j, j < n → f j = f' j
  | .inl (t, n, .inr (.inl f)), .inl (t', n', .inr (.inl f')) => t = t' ∧ n = n' ∧ ∀ j, j < n → f j = f' j
  | .inl (t, n, .inr (.inr (.inr (.inr f)))), .inl (t', n', .inr (.inr (.inr (.inr f')))) => t = t' ∧ n = n' ∧ ∀ j, j < n → f j = f' j
  | _, _ => False
theorem allB_of {f : Nat → Bool} : ∀ n, allB f n = true → ∀ j, j < n → f j = true
  | 0, _, j, hj => absurd hj (by omega)
  | n + 1, h, j, hj => by
    unfold allB at h
    rw [Bool.and_eq_true] at h
    by_cases z : j = n
    · rw [z]; exact h.1
    · exact allB_of n h.2 j (by omega)
theorem valB_of {v w : Value} (h : valB v w = true) : v = w := by
  unfold valB at h
  split at h
  · rw [of_decide_eq_true h]
  · rw [of_decide_eq_true h]
  · rw [Nat.eq_of_beq_eq_true h]
  · rfl
  · cases h
theorem valsB_of : ∀ {l q : List Value}, valsB l q = true → l = q
  | [], [], _ => rfl
  | [], _ :: _, h => by cases h
  | _ :: _, [], h => by cases h
  | v :: l, w :: q, h => by
    unfold valsB at h
    rw [Bool.and_eq_true] at h
    rw [valB_of h.1, valsB_of h.2]
theorem optB_of {x y : Option Nat} (h : optB x y = true) : x = y := by
  unfold optB at h
  split at h
  · rfl
  · rw [Nat.eq_of_beq_eq_true h]
  · cases h
theorem celB_of {c e : cw_C} (h : celB c e = true) : celE c e := by
  unfold celB at h
  split at h
  · rw [Bool.and_eq_true] at h
    exact ⟨Nat.eq_of_beq_eq_true h.1, valsB_of h.2⟩
  · rw [Bool.and_eq_true, Bool.and_eq_true] at h
    exact ⟨Nat.eq_of_beq_eq_true h.1, Nat.eq_of_beq_eq_true h.2.1, fun j hj => of_decide_eq_true (allB_of _ h.2.2 j hj)⟩
  · rw [Bool.and_eq_true, Bool.and_eq_true] at h
    exact ⟨Nat.eq_of_beq_eq_true h.1, Nat.eq_of_beq_eq_true h.2.1, fun j hj => of_decide_eq_true (allB_of _ h.2.2 j hj)⟩
  · rw [Bool.and_eq_true, Bool.and_eq_true] at h
    exact ⟨Nat.eq_of_beq_eq_true h.1, Nat.eq_of_beq_eq_true h.2.1, fun j hj => optB_of (allB_of _ h.2.2 j hj)⟩
  · cases h
def heqE (h g : cw_H) : Prop := h.length = g.length ∧ ∀ (i : Nat) (c e : cw_C), h[i]? = some c → g[i]? = some e → celE c e
theorem heqB_of : ∀ {h g : cw_H}, heqB h g = true → heqE h g
  | [], [], _ => ⟨rfl, fun i c e hc => by simp at hc⟩
  | [], _ :: _, h => by cases h
  | _ :: _, [], h => by cases h
  | c :: h, e :: g, q => by
    unfold heqB at q
    rw [Bool.and_eq_true] at q
    obtain ⟨h1, h2⟩ := heqB_of q.2
    refine ⟨by rw [List.length_cons, List.length_cons, h1], fun i x y hx hy => ?_⟩
    cases i with
    | zero =>
      simp at hx hy
      rw [← hx, ← hy]
      exact celB_of q.1
    | succ i =>
      rw [List.getElem?_cons_succ] at hx hy
      exact h2 i x y hx hy
theorem cw_C1 : cw_Z 12 m_CW_init [.ref 0] [obC] (fun r g => r = none ∧ heqE g hC0) := by
  have e := ev_C
  cases hr : runC m_CW_init 0 [obC] with
  | none => rw [hr] at e; cases e
  | some p =>
    obtain ⟨r, g⟩ := p
    rw [hr] at e
    cases r with
    | some v => cases e
    | none => exact zmono (run_Z hr (by decide +kernel)) (fun r g' q => ⟨q.1, by rw [q.2]; exact heqB_of e⟩)
theorem cw_M1 : cw_Z 12 m_Mo_init [.ref 146] (hC0 ++ [obM]) (fun r g => r = none ∧ heqE g (cw_B sg0 lm0)) := by
  have e := ev_M
  cases hr : runC m_Mo_init 146 (hC0 ++ [obM]) with
  | none => rw [hr] at e; cases e
  | some p =>
    obtain ⟨r, g⟩ := p
    rw [hr] at e
    cases r with
    | some v => cases e
    | none => exact zmono (run_Z hr (by decide +kernel)) (fun r g' q => ⟨q.1, by rw [q.2]; exact heqB_of e⟩)
theorem inv0 : Inv sg0 lm0 := by
  have ht : tlF sg0 1 15 = [] := by decide +kernel
  have hd : dnF sg0 1 = [] := by
    unfold dnF
    rw [ht]
    rfl
  have r15 : ∀ x, x < 15 → (fun j => bif Nat.ble j 14 then (-1 : Int32) else 0) x = -1 := fun x hx => by
    show (bif Nat.ble x 14 then (-1 : Int32) else 0) = -1
    rw [Nat.ble_eq_true_of_le (show x ≤ 14 by omega)]
    rfl
  have hWF : WFt 0 (sg0 7) (sg0 8) (sg0 9) := WFt.none (by omega) r15 r15 r15
  refine ⟨0, 0, 0, 0, ⟨⟨⟨rfl, hWF⟩, ⟨fun k hk => by omega, by decide, by decide, by decide⟩, ⟨fun i hi => by omega, fun i j hi => by omega, fun k hk => by omega⟩⟩, ?_, ?_, Or.inl rfl⟩, ⟨⟨rfl, WFt.none (by omega) r15 r15 r15, fun n hn => ⟨fun z => ?_, fun _ => rfl⟩⟩, ?_, rfl⟩, ⟨rfl, rfl, rfl⟩, ⟨⟨by decide, by decide, rfl, rfl, rfl⟩, fun i hi => by omega⟩, ⟨by decide, rfl, rfl, fun j hj => by omega⟩⟩
  · refine ⟨⟨by rw [hd]; rfl, by rw [ht]; rfl, fun j hj => ?_⟩, fun k hk => ?_, fun k h1 hk => ?_, fun k hk => ?_, by rw [ht]; rfl⟩
    · rw [hd] at hj; exact absurd hj (by simp)
    · rw [hd] at hk; exact absurd hk (by simp)
    · rw [hd] at hk; exact absurd hk (by simp)
    · rw [ht] at hk; exact absurd hk (by simp)
  · exact ⟨fun _ => rfl, fun z => by rw [ht] at z; cases z⟩
  · rcases z with z | z
    · omega
    · exact absurd (r15 n hn) z.2.2
  · exact te_mk (fun _ _ => rfl) (fun _ _ => rfl) (fun _ _ => rfl) (fun _ _ => rfl) (fun _ _ => rfl) (fun _ _ => rfl) (fun _ _ => rfl) (fun _ _ => rfl) rfl rfl rfl rfl
