section
variable {cM sM : Nat → Nat} {M pc : Nat}
theorem so_iadd (hd : decode (cw_b M) pc = .ok (.iadd, 1)) : cw_SN cM sM M pc (s_ibin (fun x y => x + y) (pc + 1)) := by
  intro p l e R s m args below meth c D cs ad A sh cells slots mc ms Qc free d C Q L S h X ⟨bc, bs, hw⟩ hsh hL H locs ls hP hS hl
  obtain ⟨⟨hx, hb, -⟩, -⟩ := X
  unfold s_ibin at hw
  split at hw
  · exact lv_iadd hx hb hd (hw hsh hL H locs ls hP hS hl)
  · exact hw.elim
theorem so_isub (hd : decode (cw_b M) pc = .ok (.isub, 1)) : cw_SN cM sM M pc (s_ibin (fun x y => x - y) (pc + 1)) := by
  intro p l e R s m args below meth c D cs ad A sh cells slots mc ms Qc free d C Q L S h X ⟨bc, bs, hw⟩ hsh hL H locs ls hP hS hl
  obtain ⟨⟨hx, hb, -⟩, -⟩ := X
  unfold s_ibin at hw
  split at hw
  · exact lv_isub hx hb hd (hw hsh hL H locs ls hP hS hl)
  · exact hw.elim
theorem so_imul (hd : decode (cw_b M) pc = .ok (.imul, 1)) : cw_SN cM sM M pc (s_ibin (fun x y => x * y) (pc + 1)) := by
  intro p l e R s m args below meth c D cs ad A sh cells slots mc ms Qc free d C Q L S h X ⟨bc, bs, hw⟩ hsh hL H locs ls hP hS hl
  obtain ⟨⟨hx, hb, -⟩, -⟩ := X
  unfold s_ibin at hw
  split at hw
  · exact lv_imul hx hb hd (hw hsh hL H locs ls hP hS hl)
  · exact hw.elim
theorem so_iand (hd : decode (cw_b M) pc = .ok (.iand, 1)) : cw_SN cM sM M pc (s_ibin (fun x y => x &&& y) (pc + 1)) := by
  intro p l e R s m args below meth c D cs ad A sh cells slots mc ms Qc free d C Q L S h X ⟨bc, bs, hw⟩ hsh hL H locs ls hP hS hl
  obtain ⟨⟨hx, hb, -⟩, -⟩ := X
  unfold s_ibin at hw
  split at hw
  · exact lv_iand hx hb hd (hw hsh hL H locs ls hP hS hl)
  · exact hw.elim
theorem so_ior (hd : decode (cw_b M) pc = .ok (.ior, 1)) : cw_SN cM sM M pc (s_ibin (fun x y => x ||| y) (pc + 1)) := by
  intro p l e R s m args below meth c D cs ad A sh cells slots mc ms Qc free d C Q L S h X ⟨bc, bs, hw⟩ hsh hL H locs ls hP hS hl
  obtain ⟨⟨hx, hb, -⟩, -⟩ := X
  unfold s_ibin at hw
  split at hw
  · exact lv_ior hx hb hd (hw hsh hL H locs ls hP hS hl)
  · exact hw.elim
theorem so_ishl (hd : decode (cw_b M) pc = .ok (.ishl, 1)) : cw_SN cM sM M pc (s_ibin (fun x y => x <<< (y &&& 31)) (pc + 1)) := by
  intro p l e R s m args below meth c D cs ad A sh cells slots mc ms Qc free d C Q L S h X ⟨bc, bs, hw⟩ hsh hL H locs ls hP hS hl
  obtain ⟨⟨hx, hb, -⟩, -⟩ := X
  unfold s_ibin at hw
  split at hw
  · exact lv_ishl hx hb hd (hw hsh hL H locs ls hP hS hl)
  · exact hw.elim
theorem so_ladd (hd : decode (cw_b M) pc = .ok (.ladd, 1)) : cw_SN cM sM M pc (s_lbin (fun x y => x + y) (pc + 1)) := by
  intro p l e R s m args below meth c D cs ad A sh cells slots mc ms Qc free d C Q L S h X ⟨bc, bs, hw⟩ hsh hL H locs ls hP hS hl
  obtain ⟨⟨hx, hb, -⟩, -⟩ := X
  unfold s_lbin at hw
  split at hw
  · exact lv_ladd hx hb hd (hw hsh hL H locs ls hP hS hl)
  · exact hw.elim
theorem so_lmul (hd : decode (cw_b M) pc = .ok (.lmul, 1)) : cw_SN cM sM M pc (s_lbin (fun x y => x * y) (pc + 1)) := by
  intro p l e R s m args below meth c D cs ad A sh cells slots mc ms Qc free d C Q L S h X ⟨bc, bs, hw⟩ hsh hL H locs ls hP hS hl
  obtain ⟨⟨hx, hb, -⟩, -⟩ := X
  unfold s_lbin at hw
  split at hw
  · exact lv_lmul hx hb hd (hw hsh hL H locs ls hP hS hl)
  · exact hw.elim
theorem so_lcmp (hd : decode (cw_b M) pc = .ok (.lcmp, 1)) : cw_SN cM sM M pc (s_lcmp (pc + 1)) := by
  intro p l e R s m args below meth c D cs ad A sh cells slots mc ms Qc free d C Q L S h X ⟨bc, bs, hw⟩ hsh hL H locs ls hP hS hl
  obtain ⟨⟨hx, hb, -⟩, -⟩ := X
  unfold s_lcmp at hw
  split at hw
  · exact W.lcmp hx hb hd (hw hsh hL H locs ls hP hS hl)
  · exact hw.elim
theorem so_ineg (hd : decode (cw_b M) pc = .ok (.ineg, 1)) : cw_SN cM sM M pc (s_ineg (pc + 1)) := by
  intro p l e R s m args below meth c D cs ad A sh cells slots mc ms Qc free d C Q L S h X ⟨bc, bs, hw⟩ hsh hL H locs ls hP hS hl
  obtain ⟨⟨hx, hb, -⟩, -⟩ := X
  unfold s_ineg at hw
  split at hw
  · exact lv_ineg hx hb hd (hw hsh hL H locs ls hP hS hl)
  · exact hw.elim
theorem so_i2l (hd : decode (cw_b M) pc = .ok (.i2l, 1)) : cw_SN cM sM M pc (s_i2l (pc + 1)) := by
  intro p l e R s m args below meth c D cs ad A sh cells slots mc ms Qc free d C Q L S h X ⟨bc, bs, hw⟩ hsh hL H locs ls hP hS hl
  obtain ⟨⟨hx, hb, -⟩, -⟩ := X
  unfold s_i2l at hw
  split at hw
  · exact lv_i2l hx hb hd rfl (hw hsh hL H locs ls hP hS hl)
  · exact hw.elim
theorem so_idiv (hd : decode (cw_b M) pc = .ok (.idiv, 1)) : cw_SN cM sM M pc (s_idiv (fun x y => x / y) (pc + 1)) := by
  intro p l e R s m args below meth c D cs ad A sh cells slots mc ms Qc free d C Q L S h X ⟨bc, bs, hw⟩ hsh hL H locs ls hP hS hl
  obtain ⟨⟨hx, hb, -⟩, -⟩ := X
  unfold s_idiv at hw
  split at hw
  · split at hw
    · exact hw.elim
    · rename_i hne
      exact lv_idiv hx hb hd hne (hw hsh hL H locs ls hP hS hl)
  · exact hw.elim
theorem so_irem (hd : decode (cw_b M) pc = .ok (.irem, 1)) : cw_SN cM sM M pc (s_idiv (fun x y => x - x / y * y) (pc + 1)) := by
  intro p l e R s m args below meth c D cs ad A sh cells slots mc ms Qc free d C Q L S h X ⟨bc, bs, hw⟩ hsh hL H locs ls hP hS hl
  obtain ⟨⟨hx, hb, -⟩, -⟩ := X
  unfold s_idiv at hw
  split at hw
  · split at hw
    · exact hw.elim
    · rename_i hne
      exact lv_irem hx hb hd hne (hw hsh hL H locs ls hP hS hl)
  · exact hw.elim
theorem so_dup (hd : decode (cw_b M) pc = .ok (.dup, 1)) : cw_SN cM sM M pc (s_dup (pc + 1)) := by
  intro p l e R s m args below meth c D cs ad A sh cells slots mc ms Qc free d C Q L S h X ⟨bc, bs, hw⟩ hsh hL H locs ls hP hS hl
  obtain ⟨⟨hx, hb, -⟩, -⟩ := X
  unfold s_dup at hw
  split at hw
  · split at hw
    · rename_i hc
      exact lv_dup hx hb hd (by rw [cw_tr_cat]; exact hc) (hw hsh hL H locs ls hP hS hl)
    · exact hw.elim
  · exact hw.elim
theorem so_pop (hd : decode (cw_b M) pc = .ok (.pop, 1)) : cw_SN cM sM M pc (s_pop (pc + 1)) := by
  intro p l e R s m args below meth c D cs ad A sh cells slots mc ms Qc free d C Q L S h X ⟨bc, bs, hw⟩ hsh hL H locs ls hP hS hl
  obtain ⟨⟨hx, hb, -⟩, -⟩ := X
  unfold s_pop at hw
  split at hw
  · split at hw
    · rename_i hc
      exact lv_pop hx hb hd (by rw [cw_tr_cat]; exact hc) (hw hsh hL H locs ls hP hS hl)
    · exact hw.elim
  · exact hw.elim
theorem so_dup2 (hd : decode (cw_b M) pc = .ok (.dup2, 1)) : cw_SN cM sM M pc (s_dup2 (pc + 1)) := by
  intro p l e R s m args below meth c D cs ad A sh cells slots mc ms Qc free d C Q L S h X ⟨bc, bs, hw⟩ hsh hL H locs ls hP hS hl
  obtain ⟨⟨hx, hb, -⟩, -⟩ := X
  unfold s_dup2 at hw
  split at hw
  · split at hw
    · rename_i hc
      exact lv_dup2_11 hx hb hd (by rw [cw_tr_cat]; exact hc.1) (by rw [cw_tr_cat]; exact hc.2) (hw hsh hL H locs ls hP hS hl)
    · exact hw.elim
  · exact hw.elim
theorem so_goto {off : Int} {t : Nat} (hd : decode (cw_b M) pc = .ok (.goto off, 3)) (ht : (pc : Int) + off = (t : Int)) : cw_SN cM sM M pc (s_goto t) := by
  intro p l e R s m args below meth c D cs ad A sh cells slots mc ms Qc free d C Q L S h X ⟨bc, bs, hw⟩ hsh hL H locs ls hP hS hl
  obtain ⟨⟨hx, hb, -⟩, -⟩ := X
  exact lv_goto hx hb hd ht (hw hsh hL H locs ls hP hS hl)
theorem so_if_eq {off : Int} {t : Nat} (hd : decode (cw_b M) pc = .ok (.ifCond .eq off, 3)) (ht : (pc : Int) + off = (t : Int)) : cw_SN cM sM M pc (s_if (fun x => decide (x = 0)) t (pc + 3)) := by
  intro p l e R s m args below meth c D cs ad A sh cells slots mc ms Qc free d C Q L S h X ⟨bc, bs, hw⟩ hsh hL H locs ls hP hS hl
  obtain ⟨⟨hx, hb, -⟩, -⟩ := X
  unfold s_if at hw
  split at hw
  · exact lv_if_eq hx hb hd ht (fun q => hw.1 (decide_eq_true q) hsh hL H locs ls hP hS hl) (fun q => hw.2 (decide_eq_false q) hsh hL H locs ls hP hS hl)
  · exact hw.elim
theorem so_icmp_eq {off : Int} {t : Nat} (hd : decode (cw_b M) pc = .ok (.if_icmp .eq off, 3)) (ht : (pc : Int) + off = (t : Int)) : cw_SN cM sM M pc (s_icmp (fun x y => decide (x = y)) t (pc + 3)) := by
  intro p l e R s m args below meth c D cs ad A sh cells slots mc ms Qc free d C Q L S h X ⟨bc, bs, hw⟩ hsh hL H locs ls hP hS hl
  obtain ⟨⟨hx, hb, -⟩, -⟩ := X
  unfold s_icmp at hw
  split at hw
  · exact lv_icmp_eq hx hb hd ht (fun q => hw.1 (decide_eq_true q) hsh hL H locs ls hP hS hl) (fun q => hw.2 (decide_eq_false q) hsh hL H locs ls hP hS hl)
  · exact hw.elim
theorem so_if_ne {off : Int} {t : Nat} (hd : decode (cw_b M) pc = .ok (.ifCond .ne off, 3)) (ht : (pc : Int) + off = (t : Int)) : cw_SN cM sM M pc (s_if (fun x => decide (¬ x = 0)) t (pc + 3)) := by
  intro p l e R s m args below meth c D cs ad A sh cells slots mc ms Qc free d C Q L S h X ⟨bc, bs, hw⟩ hsh hL H locs ls hP hS hl
  obtain ⟨⟨hx, hb, -⟩, -⟩ := X
  unfold s_if at hw
  split at hw
  · exact lv_if_ne hx hb hd ht (fun q => hw.1 (decide_eq_true q) hsh hL H locs ls hP hS hl) (fun q => hw.2 (decide_eq_false (fun z => z q)) hsh hL H locs ls hP hS hl)
  · exact hw.elim
theorem so_icmp_ne {off : Int} {t : Nat} (hd : decode (cw_b M) pc = .ok (.if_icmp .ne off, 3)) (ht : (pc : Int) + off = (t : Int)) : cw_SN cM sM M pc (s_icmp (fun x y => decide (¬ x = y)) t (pc + 3)) := by
  intro p l e R s m args below meth c D cs ad A sh cells slots mc ms Qc free d C Q L S h X ⟨bc, bs, hw⟩ hsh hL H locs ls hP hS hl
  obtain ⟨⟨hx, hb, -⟩, -⟩ := X
  unfold s_icmp at hw
  split at hw
  · exact lv_icmp_ne hx hb hd ht (fun q => hw.1 (decide_eq_true q) hsh hL H locs ls hP hS hl) (fun q => hw.2 (decide_eq_false (fun z => z q)) hsh hL H locs ls hP hS hl)
  · exact hw.elim
theorem so_if_lt {off : Int} {t : Nat} (hd : decode (cw_b M) pc = .ok (.ifCond .lt off, 3)) (ht : (pc : Int) + off = (t : Int)) : cw_SN cM sM M pc (s_if (fun x => decide (x < 0)) t (pc + 3)) := by
  intro p l e R s m args below meth c D cs ad A sh cells slots mc ms Qc free d C Q L S h X ⟨bc, bs, hw⟩ hsh hL H locs ls hP hS hl
  obtain ⟨⟨hx, hb, -⟩, -⟩ := X
  unfold s_if at hw
  split at hw
  · exact lv_if_lt hx hb hd ht (fun q => hw.1 (decide_eq_true q) hsh hL H locs ls hP hS hl) (fun q => hw.2 (decide_eq_false q) hsh hL H locs ls hP hS hl)
  · exact hw.elim
theorem so_icmp_lt {off : Int} {t : Nat} (hd : decode (cw_b M) pc = .ok (.if_icmp .lt off, 3)) (ht : (pc : Int) + off = (t : Int)) : cw_SN cM sM M pc (s_icmp (fun x y => decide (x < y)) t (pc + 3)) := by
  intro p l e R s m args below meth c D cs ad A sh cells slots mc ms Qc free d C Q L S h X ⟨bc, bs, hw⟩ hsh hL H locs ls hP hS hl
  obtain ⟨⟨hx, hb, -⟩, -⟩ := X
  unfold s_icmp at hw
  split at hw
  · exact lv_icmp_lt hx hb hd ht (fun q => hw.1 (decide_eq_true q) hsh hL H locs ls hP hS hl) (fun q => hw.2 (decide_eq_false q) hsh hL H locs ls hP hS hl)
  · exact hw.elim
theorem so_if_ge {off : Int} {t : Nat} (hd : decode (cw_b M) pc = .ok (.ifCond .ge off, 3)) (ht : (pc : Int) + off = (t : Int)) : cw_SN cM sM M pc (s_if (fun x => decide (0 ≤ x)) t (pc + 3)) := by
  intro p l e R s m args below meth c D cs ad A sh cells slots mc ms Qc free d C Q L S h X ⟨bc, bs, hw⟩ hsh hL H locs ls hP hS hl
  obtain ⟨⟨hx, hb, -⟩, -⟩ := X
  unfold s_if at hw
  split at hw
  · exact lv_if_ge hx hb hd ht (fun q => hw.1 (decide_eq_true q) hsh hL H locs ls hP hS hl) (fun q => hw.2 (decide_eq_false q) hsh hL H locs ls hP hS hl)
  · exact hw.elim
theorem so_icmp_ge {off : Int} {t : Nat} (hd : decode (cw_b M) pc = .ok (.if_icmp .ge off, 3)) (ht : (pc : Int) + off = (t : Int)) : cw_SN cM sM M pc (s_icmp (fun x y => decide (y ≤ x)) t (pc + 3)) := by
  intro p l e R s m args below meth c D cs ad A sh cells slots mc ms Qc free d C Q L S h X ⟨bc, bs, hw⟩ hsh hL H locs ls hP hS hl
  obtain ⟨⟨hx, hb, -⟩, -⟩ := X
  unfold s_icmp at hw
  split at hw
  · exact lv_icmp_ge hx hb hd ht (fun q => hw.1 (decide_eq_true q) hsh hL H locs ls hP hS hl) (fun q => hw.2 (decide_eq_false q) hsh hL H locs ls hP hS hl)
  · exact hw.elim
theorem so_if_gt {off : Int} {t : Nat} (hd : decode (cw_b M) pc = .ok (.ifCond .gt off, 3)) (ht : (pc : Int) + off = (t : Int)) : cw_SN cM sM M pc (s_if (fun x => decide (0 < x)) t (pc + 3)) := by
  intro p l e R s m args below meth c D cs ad A sh cells slots mc ms Qc free d C Q L S h X ⟨bc, bs, hw⟩ hsh hL H locs ls hP hS hl
  obtain ⟨⟨hx, hb, -⟩, -⟩ := X
  unfold s_if at hw
  split at hw
  · exact lv_if_gt hx hb hd ht (fun q => hw.1 (decide_eq_true q) hsh hL H locs ls hP hS hl) (fun q => hw.2 (decide_eq_false q) hsh hL H locs ls hP hS hl)
  · exact hw.elim
theorem so_icmp_gt {off : Int} {t : Nat} (hd : decode (cw_b M) pc = .ok (.if_icmp .gt off, 3)) (ht : (pc : Int) + off = (t : Int)) : cw_SN cM sM M pc (s_icmp (fun x y => decide (y < x)) t (pc + 3)) := by
  intro p l e R s m args below meth c D cs ad A sh cells slots mc ms Qc free d C Q L S h X ⟨bc, bs, hw⟩ hsh hL H locs ls hP hS hl
  obtain ⟨⟨hx, hb, -⟩, -⟩ := X
  unfold s_icmp at hw
  split at hw
  · exact lv_icmp_gt hx hb hd ht (fun q => hw.1 (decide_eq_true q) hsh hL H locs ls hP hS hl) (fun q => hw.2 (decide_eq_false q) hsh hL H locs ls hP hS hl)
  · exact hw.elim
theorem so_if_le {off : Int} {t : Nat} (hd : decode (cw_b M) pc = .ok (.ifCond .le off, 3)) (ht : (pc : Int) + off = (t : Int)) : cw_SN cM sM M pc (s_if (fun x => decide (x ≤ 0)) t (pc + 3)) := by
  intro p l e R s m args below meth c D cs ad A sh cells slots mc ms Qc free d C Q L S h X ⟨bc, bs, hw⟩ hsh hL H locs ls hP hS hl
  obtain ⟨⟨hx, hb, -⟩, -⟩ := X
  unfold s_if at hw
  split at hw
  · exact lv_if_le hx hb hd ht (fun q => hw.1 (decide_eq_true q) hsh hL H locs ls hP hS hl) (fun q => hw.2 (decide_eq_false q) hsh hL H locs ls hP hS hl)
  · exact hw.elim
theorem so_icmp_le {off : Int} {t : Nat} (hd : decode (cw_b M) pc = .ok (.if_icmp .le off, 3)) (ht : (pc : Int) + off = (t : Int)) : cw_SN cM sM M pc (s_icmp (fun x y => decide (x ≤ y)) t (pc + 3)) := by
  intro p l e R s m args below meth c D cs ad A sh cells slots mc ms Qc free d C Q L S h X ⟨bc, bs, hw⟩ hsh hL H locs ls hP hS hl
  obtain ⟨⟨hx, hb, -⟩, -⟩ := X
  unfold s_icmp at hw
  split at hw
  · exact lv_icmp_le hx hb hd ht (fun q => hw.1 (decide_eq_true q) hsh hL H locs ls hP hS hl) (fun q => hw.2 (decide_eq_false q) hsh hL H locs ls hP hS hl)
  · exact hw.elim
end
