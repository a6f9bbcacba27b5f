/-! ===== 68 World: win, dropPage, lose, note, passYear ===== -/
theorem SWi {j k o : Nat} (h : k = 8 ∨ (41 ≤ k ∧ k ≤ 48)) : SW j k j o := ⟨rfl, h⟩
theorem ok_WO_win {σ : jM} {Φ : jPh} {d j k : Nat} (hk : k < 4) (h0 : 0 ≤ σ.1 44 j k ∧ σ.1 44 j k ≤ 999) (h : Φ none (sI σ 44 j k (min 999 (σ.1 44 j k + 1)))) : Ct (d + 2) M_WO_win [rf 8 j, .inl k] σ Φ := by
  refine i_WO_win (Nat.le_refl 2) ?_
  simp only [w_WO_win_29, w_WO_win_0, c_ic, c_lc, c_nul, c_il, c_ll, c_al, c_is, c_ls, c_as, c_inc, c_b2, c_b2n, c_b1, c_d2, c_d2n, c_dsh, c_i2l, c_l2i, c_lcm, c_dup, c_dup2, c_pop, c_j1, c_j2, c_jn, c_sw0, c_sw, c_gI, c_gL, c_gR, c_gS, c_pI, c_pZ, c_pL, c_pR, c_iald, c_ialg, c_iast, c_iasg, c_bald, c_bast, c_lald, c_last, c_aald, c_aals, c_aast, c_alen, c_bnd, c_str, c_bndl, c_bnln, c_sval, c_scod, c_sbal, c_sbln, c_fmt, c_stop, c_iret, c_zret, c_nret, c_aret, c_vret, c_lret, c_cpy, c_callV, c_callS, tkA, lget, lput, lkill, jpush, vsz, jcat, lins, lent, List.length_cons, List.length_nil, List.replicate, List.append_nil, List.cons_append, List.nil_append, reduceIte, Nat.reduceAdd, Nat.reduceSub, Nat.reduceEqDiff, true_and, and_true, Nat.reduceLeDiff, Nat.lt_irrefl, Nat.succ_ne_self, forall_const, ne_eq, not_true_eq_false, not_false_eq_true, false_implies, implies_true, true_implies, true_or, or_true, or_false, false_or, eq_self, Int.reduceEq, Int.reduceLT, Int.reduceLE, Int.reduceNeg, Int.reduceToNat, Int.reduceAdd, Int.reduceSub, Int.reduceMul, Int.reduceNe, and_self, Int.toNat_natCast]
  refine ⟨fun z => absurd z (by omega), fun _ => ⟨fun z => absurd z (by omega), fun _ => ⟨⟨by omega, by omega⟩, ?_⟩⟩⟩
  rw [wr_id (by omega) (by omega)]
  refine ok_MA_min ?_
  simp only [c_ic, c_lc, c_nul, c_il, c_ll, c_al, c_is, c_ls, c_as, c_inc, c_b2, c_b2n, c_b1, c_d2, c_d2n, c_dsh, c_i2l, c_l2i, c_lcm, c_dup, c_dup2, c_pop, c_j1, c_j2, c_jn, c_sw0, c_sw, c_gI, c_gL, c_gR, c_gS, c_pI, c_pZ, c_pL, c_pR, c_iald, c_ialg, c_iast, c_iasg, c_bald, c_bast, c_lald, c_last, c_aald, c_aals, c_aast, c_alen, c_bnd, c_str, c_bndl, c_bnln, c_sval, c_scod, c_sbal, c_sbln, c_fmt, c_stop, c_iret, c_zret, c_nret, c_aret, c_vret, c_lret, c_cpy, c_callV, c_callS, tkA, lget, lput, lkill, jpush, vsz, jcat, lins, lent, List.length_cons, List.length_nil, List.replicate, List.append_nil, List.cons_append, List.nil_append, reduceIte, Nat.reduceAdd, Nat.reduceSub, Nat.reduceEqDiff, true_and, and_true, Nat.reduceLeDiff, Nat.lt_irrefl, Nat.succ_ne_self, forall_const, ne_eq, not_true_eq_false, not_false_eq_true, false_implies, implies_true, true_implies, true_or, or_true, or_false, false_or, eq_self, Int.reduceEq, Int.reduceLT, Int.reduceLE, Int.reduceNeg, Int.reduceToNat, Int.reduceAdd, Int.reduceSub, Int.reduceMul, Int.reduceNe, and_self, Int.toNat_natCast]
  exact ⟨⟨by omega, by omega⟩, h⟩
theorem ok_WO_dropPage {σ : jM} {Φ : jPh} {d j K i : Nat} {W : Nat → Int} {Y : Int} (hC : CW σ j K W) (hK : K ≤ 4) (hW : WW K Y W) (hi : (i : Int) < W 19) (h : ∀ τ, Fr (SW j) σ τ → CW τ j K (burnS W i) → Φ none τ) : Ct (d + 2) M_WO_dropPage [rf 8 j, .inl i] σ Φ := by
  refine i_WO_dropPage (Nat.le_succ 2) ?_
  have hW' := hW
  obtain ⟨-, -, -, -, -, w19, wpg, -⟩ := hW'
  obtain ⟨p0, p1, p2⟩ := wpg i hi
  have c8 := hC.2.2.1.1
  have c47 := hC.2.2.2.1 i hi
  obtain ⟨b, hb⟩ := Int.eq_ofNat_of_zero_le p1.1
  have c46 := (hC.2.1 b (by omega)).2.2
  obtain ⟨n, hn⟩ := Int.eq_ofNat_of_zero_le w19.1
  simp only [w_WO_dropPage_0, w_WO_dropPage_22, c_ic, c_lc, c_nul, c_il, c_ll, c_al, c_is, c_ls, c_as, c_inc, c_b2, c_b2n, c_b1, c_d2, c_d2n, c_dsh, c_i2l, c_l2i, c_lcm, c_dup, c_dup2, c_pop, c_j1, c_j2, c_jn, c_sw0, c_sw, c_gI, c_gL, c_gR, c_gS, c_pI, c_pZ, c_pL, c_pR, c_iald, c_ialg, c_iast, c_iasg, c_bald, c_bast, c_lald, c_last, c_aald, c_aals, c_aast, c_alen, c_bnd, c_str, c_bndl, c_bnln, c_sval, c_scod, c_sbal, c_sbln, c_fmt, c_stop, c_iret, c_zret, c_nret, c_aret, c_vret, c_lret, c_cpy, c_callV, c_callS, tkA, lget, lput, lkill, jpush, vsz, jcat, lins, lent, List.length_cons, List.length_nil, List.replicate, List.append_nil, List.cons_append, List.nil_append, reduceIte, Nat.reduceAdd, Nat.reduceSub, Nat.reduceEqDiff, true_and, and_true, Nat.reduceLeDiff, Nat.lt_irrefl, Nat.succ_ne_self, forall_const, ne_eq, not_true_eq_false, not_false_eq_true, false_implies, implies_true, true_implies, true_or, or_true, or_false, false_or, eq_self, Int.reduceEq, Int.reduceLT, Int.reduceLE, Int.reduceNeg, Int.reduceToNat, Int.reduceAdd, Int.reduceSub, Int.reduceMul, Int.reduceNe, and_self, c8, Int.toNat_natCast, c47]
  refine ⟨fun z => absurd z (by omega), fun _ => ⟨fun z => absurd z (by omega), fun _ => ⟨fun _ => ⟨⟨by omega, by omega⟩, ?_⟩, fun z => absurd z (by omega)⟩⟩⟩
  refine ok_WO_unpacked p0 (by omega) (by omega) ?_
  have e : upk (W (20 + 3 * i)) (W (21 + 3 * i)) (W (22 + 3 * i)) 1 = b := hb
  rw [e]
  have hp := pgs_in hW b
  simp only [w_WO_dropPage_52, c_ic, c_lc, c_nul, c_il, c_ll, c_al, c_is, c_ls, c_as, c_inc, c_b2, c_b2n, c_b1, c_d2, c_d2n, c_dsh, c_i2l, c_l2i, c_lcm, c_dup, c_dup2, c_pop, c_j1, c_j2, c_jn, c_sw0, c_sw, c_gI, c_gL, c_gR, c_gS, c_pI, c_pZ, c_pL, c_pR, c_iald, c_ialg, c_iast, c_iasg, c_bald, c_bast, c_lald, c_last, c_aald, c_aals, c_aast, c_alen, c_bnd, c_str, c_bndl, c_bnln, c_sval, c_scod, c_sbal, c_sbln, c_fmt, c_stop, c_iret, c_zret, c_nret, c_aret, c_vret, c_lret, c_cpy, c_callV, c_callS, tkA, lget, lput, lkill, jpush, vsz, jcat, lins, lent, List.length_cons, List.length_nil, List.replicate, List.append_nil, List.cons_append, List.nil_append, reduceIte, Nat.reduceAdd, Nat.reduceSub, Nat.reduceEqDiff, true_and, and_true, Nat.reduceLeDiff, Nat.lt_irrefl, Nat.succ_ne_self, forall_const, ne_eq, not_true_eq_false, not_false_eq_true, false_implies, implies_true, true_implies, true_or, or_true, or_false, false_or, eq_self, Int.reduceEq, Int.reduceLT, Int.reduceLE, Int.reduceNeg, Int.reduceToNat, Int.reduceAdd, Int.reduceSub, Int.reduceMul, Int.reduceNe, and_self, Int.toNat_natCast, c46, g_sI, g_sI2, g_sL1, g_sL, g_sL2, g_sR1, g_sR2, g_sR, g_sA, g_sA2, and_false, false_and, and_self, if_false, if_true, c8, jln]
  refine ⟨fun z => absurd z (by omega), fun _ => ⟨fun z => absurd z (by omega), fun _ => ⟨⟨by omega, by omega⟩, ⟨by omega, by omega⟩, by decide, by decide, ?_⟩⟩⟩
  rw [wr_id (x := pgs W b - 1) (by omega) (by omega), wr_id (x := (i : Int) + 1) (by omega) (by omega), wr_id (x := W 19 - (i : Int)) (by omega) (by omega), wr_id (x := W 19 - (i : Int) - 1) (by omega) (by omega), wr_id (x := W 19 - 1) (by omega) (by omega)]
  refine ⟨⟨by omega, by omega, by omega, by omega, by omega⟩, ?_⟩
  have := hC.drop hK hW hi
  rw [hb, Int.toNat_natCast] at this
  rw [show ((i : Int) + 1).toNat = i + 1 by omega, show (W 19 - (i : Int) - 1).toNat = (W 19).toNat - i - 1 by omega]
  refine h _ ?_ this
  exact ((Fr.rf.sI (SWi (by decide))).sA (fun _ => SWi (by decide))).sI (SWi (by decide))
theorem up_self (W : Nat → Int) (o : Nat) : up W o (W o) = W := by
  funext p
  simp only [up_at]
  split
  · rename_i q; rw [q]
  · rfl
theorem wri_17 {W : Nat → Int} {f b t v : Int} : wriS (up W 17 v) f b t = up (wriS W f b t) 17 v := by
  have e19 : up W 17 v 19 = W 19 := up_ne (by decide)
  have eb : burnS (up W 17 v) 0 = up (burnS W 0) 17 v := by
    funext p
    unfold burnS
    rw [e19]
    simp only [up_at]
    repeat' split
    all_goals first | rfl | omega
  unfold wriS
  rw [e19]
  by_cases z : W 19 = 30
  · simp only [if_pos z, eb]
    rw [up_ne (show 19 ≠ 17 by decide)]
    funext p
    simp only [up_at]
    repeat' split
    all_goals first | rfl | omega
  · simp only [if_neg z]
    rw [e19]
    funext p
    simp only [up_at]
    repeat' split
    all_goals first | rfl | omega
theorem log_18 {W : Nat → Int} {f b t v : Int} : logS (up W 18 v) f b t = up (logS W f b t) 18 v := by
  have e19 : up W 18 v 110 = W 110 := up_ne (by decide)
  have eb : shfL (up W 18 v) = up (shfL W) 18 v := by
    funext p
    unfold shfL
    simp only [up_at]
    repeat' split
    all_goals first | rfl | omega
  unfold logS
  rw [e19]
  by_cases z : W 110 = 60
  · simp only [if_pos z, eb]
    rw [up_ne (show 110 ≠ 18 by decide)]
    funext p
    simp only [up_at]
    repeat' split
    all_goals first | rfl | omega
  · simp only [if_neg z]
    rw [e19]
    funext p
    simp only [up_at]
    repeat' split
    all_goals first | rfl | omega
theorem ok_WO_note {σ : jM} {Φ : jPh} {d j K : Nat} {W : Nat → Int} {Y f b t : Int} (hC : CW σ j K W) (hK : K ≤ 4) (hW : WW K Y W) (h : ∀ τ, Fr (SW j) σ τ → CW τ j K (logS W f b t) → Φ none τ) : Ct (d + 1) M_WO_note [rf 8 j, .inl (pk f b t)] σ Φ := by
  refine i_WO_note (Nat.le_refl 2) ?_
  have w110 := hW.2.2.2.2.2.2.2.1
  have w19 := hW.2.2.2.2.2.1
  have c9 := hC.2.2.1.2.1
  have tail : ∀ (V : Nat → Int) (τ : jM) (n : Nat), V 110 = n → n ≤ 59 → V 19 ≤ 30 → CW τ j K V → (∀ υ, Fr (SW j) τ υ → CW υ j K (up (up (up (up V (111 + 3 * n) f) (111 + 3 * n + 1) b) (111 + 3 * n + 2) t) 110 (n + 1)) → Φ none υ) → w_WO_note_30 Φ d [some (rf 8 j), some (.inl (pk f b t))] [] τ := by
    intro V τ n hn n59 hV hc hq
    have c9 := hc.2.2.1.2.1
    simp only [w_WO_note_30, w_WO_note_57, c_ic, c_lc, c_nul, c_il, c_ll, c_al, c_is, c_ls, c_as, c_inc, c_b2, c_b2n, c_b1, c_d2, c_d2n, c_dsh, c_i2l, c_l2i, c_lcm, c_dup, c_dup2, c_pop, c_j1, c_j2, c_jn, c_sw0, c_sw, c_gI, c_gL, c_gR, c_gS, c_pI, c_pZ, c_pL, c_pR, c_iald, c_ialg, c_iast, c_iasg, c_bald, c_bast, c_lald, c_last, c_aald, c_aals, c_aast, c_alen, c_bnd, c_str, c_bndl, c_bnln, c_sval, c_scod, c_sbal, c_sbln, c_fmt, c_stop, c_iret, c_zret, c_nret, c_aret, c_vret, c_lret, c_cpy, c_callV, c_callS, tkA, lget, lput, lkill, jpush, vsz, jcat, lins, lent, List.length_cons, List.length_nil, List.replicate, List.append_nil, List.cons_append, List.nil_append, reduceIte, Nat.reduceAdd, Nat.reduceSub, Nat.reduceEqDiff, true_and, and_true, Nat.reduceLeDiff, Nat.lt_irrefl, Nat.succ_ne_self, forall_const, ne_eq, not_true_eq_false, not_false_eq_true, false_implies, implies_true, true_implies, true_or, or_true, or_false, false_or, eq_self, Int.reduceEq, Int.reduceLT, Int.reduceLE, Int.reduceNeg, Int.reduceToNat, Int.reduceAdd, Int.reduceSub, Int.reduceMul, Int.reduceNe, and_self, c9, hn, Int.toNat_natCast, g_sI, g_sI2, g_sL1, g_sL, g_sL2, g_sR1, g_sR2, g_sR, g_sA, g_sA2, and_false, false_and, and_self, if_false, if_true]
    refine ⟨fun z => absurd z (by omega), fun _ => ⟨⟨by omega, by omega⟩, ?_⟩⟩
    rw [wr_id (by omega) (by omega)]
    exact hq _ ((Fr.rf.sI (SWi (by decide))).sI (SWi (by decide))) (hc.line hK hV hn n59)
  unfold logS at h
  simp only [w_WO_note_0, c_ic, c_lc, c_nul, c_il, c_ll, c_al, c_is, c_ls, c_as, c_inc, c_b2, c_b2n, c_b1, c_d2, c_d2n, c_dsh, c_i2l, c_l2i, c_lcm, c_dup, c_dup2, c_pop, c_j1, c_j2, c_jn, c_sw0, c_sw, c_gI, c_gL, c_gR, c_gS, c_pI, c_pZ, c_pL, c_pR, c_iald, c_ialg, c_iast, c_iasg, c_bald, c_bast, c_lald, c_last, c_aald, c_aals, c_aast, c_alen, c_bnd, c_str, c_bndl, c_bnln, c_sval, c_scod, c_sbal, c_sbln, c_fmt, c_stop, c_iret, c_zret, c_nret, c_aret, c_vret, c_lret, c_cpy, c_callV, c_callS, tkA, lget, lput, lkill, jpush, vsz, jcat, lins, lent, List.length_cons, List.length_nil, List.replicate, List.append_nil, List.cons_append, List.nil_append, reduceIte, Nat.reduceAdd, Nat.reduceSub, Nat.reduceEqDiff, true_and, and_true, Nat.reduceLeDiff, Nat.lt_irrefl, Nat.succ_ne_self, forall_const, ne_eq, not_true_eq_false, not_false_eq_true, false_implies, implies_true, true_implies, true_or, or_true, or_false, false_or, eq_self, Int.reduceEq, Int.reduceLT, Int.reduceLE, Int.reduceNeg, Int.reduceToNat, Int.reduceAdd, Int.reduceSub, Int.reduceMul, Int.reduceNe, and_self, c9, jln]
  refine ⟨fun z => ?_, fun z => ⟨by decide, by decide, by decide, ?_⟩⟩
  · rw [if_neg (by omega)] at h
    obtain ⟨n, hn⟩ := Int.eq_ofNat_of_zero_le w110.1
    refine tail W σ n hn (by omega) w19.2 hC (fun υ u1 u2 => h υ u1 ?_)
    simp only
    rw [hn, Int.toNat_natCast]
    exact u2
  · have e : W 110 = 60 := by omega
    rw [if_pos e] at h
    have := hC.shift hK w19.2 e
    have e59 : shfL W 110 = ((59 : Nat) : Int) := by unfold shfL; rw [if_pos rfl]; rfl
    refine tail (shfL W) _ 59 e59 (by decide) (by unfold shfL; rw [if_neg (by decide), if_neg (by omega)]; exact w19.2) this (fun υ u1 u2 => h υ (Fr.tr ((Fr.rf.sA (fun _ => SWi (by decide))).sI (SWi (by decide))) u1) ?_)
    simp only
    rw [e59, Int.toNat_natCast]
    exact u2
theorem ok_WO_lose {σ : jM} {Φ : jPh} {d j r K F f b : Nat} {ru G W : Nat → Int} {Y : Int} (hC : CW σ j K W) (hR : CR σ r K F ru G) (hG : RW K F ru G) (hW : WW K Y W) (hf : f < F) (hb : b < K) (h : ∀ τ, Fr (SW j) σ τ → CW τ j K (wriS (up (up (up W (4 * b) (max 0 (W (4 * b) - ru 0))) (4 * b + 2) (min 9 (W (4 * b + 2) + 1))) 17 (min 999 (W 17 + 1))) f b (G (4 * f + 3) + W (4 * b + 1))) → Φ (some (.inl (G (4 * f + 3) + W (4 * b + 1)))) τ) : Ct (d + 3) M_WO_lose [rf 8 j, .inl b, .inl f, rf 5 r] σ Φ := by
  refine i_WO_lose (Nat.le_succ 4) ?_
  have hG' := hG
  obtain ⟨⟨rK, rK4⟩, ⟨rF, rF8⟩, ru0, -, -⟩ := hG'
  obtain ⟨-, -, -, -, g3⟩ := hG.at hf
  have hW' := hW
  obtain ⟨wk, ww, -, w17, -, w19, -, w110, -⟩ := hW'
  obtain ⟨m1, m2, m3⟩ := wk b hb
  obtain ⟨c1, c2, c3⟩ := hC.1 b hb
  have c10 := hC.2.2.1.2.2.1
  have r32 := (hR.2.2.2 f hf).2.2.2
  have r11 := hR.2.2.1
  -- the page
  have fin : ∀ (V : Nat → Int) (τ : jM) (n : Nat), V 19 = n → n ≤ 29 → WW K Y V → CW τ j K V → (∀ υ, Fr (SW j) τ υ → CW υ j K (up (up (up (up V (20 + 3 * n) f) (20 + 3 * n + 1) b) (20 + 3 * n + 2) (G (4 * f + 3) + W (4 * b + 1))) 19 (n + 1)) → Φ (some (.inl (G (4 * f + 3) + W (4 * b + 1)))) υ) → w_WO_lose_106 Φ (d + 2) [some (rf 8 j), some (.inl b), some (.inl f), some (rf 5 r), some (.inl (G (4 * f + 3) + W (4 * b + 1)))] [] τ := by
    intro V τ n hn n29 hV hc hq
    have c8 := hc.2.2.1.1
    have c46 := (hc.2.1 b (by omega)).2.2
    have hp := pgs_in hV b
    simp only [w_WO_lose_106, w_WO_lose_158, c_ic, c_lc, c_nul, c_il, c_ll, c_al, c_is, c_ls, c_as, c_inc, c_b2, c_b2n, c_b1, c_d2, c_d2n, c_dsh, c_i2l, c_l2i, c_lcm, c_dup, c_dup2, c_pop, c_j1, c_j2, c_jn, c_sw0, c_sw, c_gI, c_gL, c_gR, c_gS, c_pI, c_pZ, c_pL, c_pR, c_iald, c_ialg, c_iast, c_iasg, c_bald, c_bast, c_lald, c_last, c_aald, c_aals, c_aast, c_alen, c_bnd, c_str, c_bndl, c_bnln, c_sval, c_scod, c_sbal, c_sbln, c_fmt, c_stop, c_iret, c_zret, c_nret, c_aret, c_vret, c_lret, c_cpy, c_callV, c_callS, tkA, lget, lput, lkill, jpush, vsz, jcat, lins, lent, List.length_cons, List.length_nil, List.replicate, List.append_nil, List.cons_append, List.nil_append, reduceIte, Nat.reduceAdd, Nat.reduceSub, Nat.reduceEqDiff, true_and, and_true, Nat.reduceLeDiff, Nat.lt_irrefl, Nat.succ_ne_self, forall_const, ne_eq, not_true_eq_false, not_false_eq_true, false_implies, implies_true, true_implies, true_or, or_true, or_false, false_or, eq_self, Int.reduceEq, Int.reduceLT, Int.reduceLE, Int.reduceNeg, Int.reduceToNat, Int.reduceAdd, Int.reduceSub, Int.reduceMul, Int.reduceNe, and_self, c8, hn, Int.toNat_natCast]
    refine ⟨fun z => absurd z (by omega), fun _ => ⟨fun z => absurd z (by omega), fun _ => ?_⟩⟩
    refine ok_WO_packed (by omega) (by omega) (by omega) ?_
    simp only [c_ic, c_lc, c_nul, c_il, c_ll, c_al, c_is, c_ls, c_as, c_inc, c_b2, c_b2n, c_b1, c_d2, c_d2n, c_dsh, c_i2l, c_l2i, c_lcm, c_dup, c_dup2, c_pop, c_j1, c_j2, c_jn, c_sw0, c_sw, c_gI, c_gL, c_gR, c_gS, c_pI, c_pZ, c_pL, c_pR, c_iald, c_ialg, c_iast, c_iasg, c_bald, c_bast, c_lald, c_last, c_aald, c_aals, c_aast, c_alen, c_bnd, c_str, c_bndl, c_bnln, c_sval, c_scod, c_sbal, c_sbln, c_fmt, c_stop, c_iret, c_zret, c_nret, c_aret, c_vret, c_lret, c_cpy, c_callV, c_callS, tkA, lget, lput, lkill, jpush, vsz, jcat, lins, lent, List.length_cons, List.length_nil, List.replicate, List.append_nil, List.cons_append, List.nil_append, reduceIte, Nat.reduceAdd, Nat.reduceSub, Nat.reduceEqDiff, true_and, and_true, Nat.reduceLeDiff, Nat.lt_irrefl, Nat.succ_ne_self, forall_const, ne_eq, not_true_eq_false, not_false_eq_true, false_implies, implies_true, true_implies, true_or, or_true, or_false, false_or, eq_self, Int.reduceEq, Int.reduceLT, Int.reduceLE, Int.reduceNeg, Int.reduceToNat, Int.reduceAdd, Int.reduceSub, Int.reduceMul, Int.reduceNe, and_self, g_sI, g_sI2, g_sL1, g_sL, g_sL2, g_sR1, g_sR2, g_sR, g_sA, g_sA2, and_false, false_and, and_self, if_false, if_true, Int.toNat_natCast, c8, hn, c46]
    refine ⟨⟨by omega, by omega⟩, ⟨by omega, by omega⟩, ⟨by omega, by omega⟩, ?_⟩
    rw [wr_id (x := (n : Int) + 1) (by omega) (by omega), wr_id (x := pgs V b + 1) (by omega) (by omega)]
    exact hq _ (((Fr.rf.sI (SWi (by decide))).sI (SWi (by decide))).sI (SWi (by decide))) (hc.page rK4 hn n29 (by omega))
  simp only [w_WO_lose_0, w_WO_lose_21, c_ic, c_lc, c_nul, c_il, c_ll, c_al, c_is, c_ls, c_as, c_inc, c_b2, c_b2n, c_b1, c_d2, c_d2n, c_dsh, c_i2l, c_l2i, c_lcm, c_dup, c_dup2, c_pop, c_j1, c_j2, c_jn, c_sw0, c_sw, c_gI, c_gL, c_gR, c_gS, c_pI, c_pZ, c_pL, c_pR, c_iald, c_ialg, c_iast, c_iasg, c_bald, c_bast, c_lald, c_last, c_aald, c_aals, c_aast, c_alen, c_bnd, c_str, c_bndl, c_bnln, c_sval, c_scod, c_sbal, c_sbln, c_fmt, c_stop, c_iret, c_zret, c_nret, c_aret, c_vret, c_lret, c_cpy, c_callV, c_callS, tkA, lget, lput, lkill, jpush, vsz, jcat, lins, lent, List.length_cons, List.length_nil, List.replicate, List.append_nil, List.cons_append, List.nil_append, reduceIte, Nat.reduceAdd, Nat.reduceSub, Nat.reduceEqDiff, true_and, and_true, Nat.reduceLeDiff, Nat.lt_irrefl, Nat.succ_ne_self, forall_const, ne_eq, not_true_eq_false, not_false_eq_true, false_implies, implies_true, true_implies, true_or, or_true, or_false, false_or, eq_self, Int.reduceEq, Int.reduceLT, Int.reduceLE, Int.reduceNeg, Int.reduceToNat, Int.reduceAdd, Int.reduceSub, Int.reduceMul, Int.reduceNe, and_self, Int.toNat_natCast, r32, c2, c1, r11]
  refine ⟨fun z => absurd z (by omega), fun _ => ⟨fun z => absurd z (by omega), fun _ => ⟨fun z => absurd z (by omega), fun _ => ⟨fun _ => ⟨⟨by omega, by omega⟩, ⟨by omega, by omega⟩, ⟨by omega, by omega⟩, ?_⟩, fun z => absurd z (by omega)⟩⟩⟩⟩
  rw [wr_id (x := G (4 * f + 3) + W (4 * b + 1)) (by omega) (by omega), wr_id (x := W (4 * b) - ru 0) (by omega) (by omega)]
  refine ok_MA_max ?_
  simp only [c_ic, c_lc, c_nul, c_il, c_ll, c_al, c_is, c_ls, c_as, c_inc, c_b2, c_b2n, c_b1, c_d2, c_d2n, c_dsh, c_i2l, c_l2i, c_lcm, c_dup, c_dup2, c_pop, c_j1, c_j2, c_jn, c_sw0, c_sw, c_gI, c_gL, c_gR, c_gS, c_pI, c_pZ, c_pL, c_pR, c_iald, c_ialg, c_iast, c_iasg, c_bald, c_bast, c_lald, c_last, c_aald, c_aals, c_aast, c_alen, c_bnd, c_str, c_bndl, c_bnln, c_sval, c_scod, c_sbal, c_sbln, c_fmt, c_stop, c_iret, c_zret, c_nret, c_aret, c_vret, c_lret, c_cpy, c_callV, c_callS, tkA, lget, lput, lkill, jpush, vsz, jcat, lins, lent, List.length_cons, List.length_nil, List.replicate, List.append_nil, List.cons_append, List.nil_append, reduceIte, Nat.reduceAdd, Nat.reduceSub, Nat.reduceEqDiff, true_and, and_true, Nat.reduceLeDiff, Nat.lt_irrefl, Nat.succ_ne_self, forall_const, ne_eq, not_true_eq_false, not_false_eq_true, false_implies, implies_true, true_implies, true_or, or_true, or_false, false_or, eq_self, Int.reduceEq, Int.reduceLT, Int.reduceLE, Int.reduceNeg, Int.reduceToNat, Int.reduceAdd, Int.reduceSub, Int.reduceMul, Int.reduceNe, and_self, g_sI, g_sI2, g_sL1, g_sL, g_sL2, g_sR1, g_sR2, g_sR, g_sA, g_sA2, and_false, false_and, and_self, if_false, if_true, Int.toNat_natCast, c3]
  refine ⟨⟨by omega, by omega⟩, ⟨by omega, by omega⟩, ?_⟩
  rw [wr_id (x := W (4 * b + 2) + 1) (by omega) (by omega)]
  refine ok_MA_min ?_
  simp only [c_ic, c_lc, c_nul, c_il, c_ll, c_al, c_is, c_ls, c_as, c_inc, c_b2, c_b2n, c_b1, c_d2, c_d2n, c_dsh, c_i2l, c_l2i, c_lcm, c_dup, c_dup2, c_pop, c_j1, c_j2, c_jn, c_sw0, c_sw, c_gI, c_gL, c_gR, c_gS, c_pI, c_pZ, c_pL, c_pR, c_iald, c_ialg, c_iast, c_iasg, c_bald, c_bast, c_lald, c_last, c_aald, c_aals, c_aast, c_alen, c_bnd, c_str, c_bndl, c_bnln, c_sval, c_scod, c_sbal, c_sbln, c_fmt, c_stop, c_iret, c_zret, c_nret, c_aret, c_vret, c_lret, c_cpy, c_callV, c_callS, tkA, lget, lput, lkill, jpush, vsz, jcat, lins, lent, List.length_cons, List.length_nil, List.replicate, List.append_nil, List.cons_append, List.nil_append, reduceIte, Nat.reduceAdd, Nat.reduceSub, Nat.reduceEqDiff, true_and, and_true, Nat.reduceLeDiff, Nat.lt_irrefl, Nat.succ_ne_self, forall_const, ne_eq, not_true_eq_false, not_false_eq_true, false_implies, implies_true, true_implies, true_or, or_true, or_false, false_or, eq_self, Int.reduceEq, Int.reduceLT, Int.reduceLE, Int.reduceNeg, Int.reduceToNat, Int.reduceAdd, Int.reduceSub, Int.reduceMul, Int.reduceNe, and_self, g_sI, g_sI2, g_sL1, g_sL, g_sL2, g_sR1, g_sR2, g_sR, g_sA, g_sA2, and_false, false_and, and_self, if_false, if_true, Int.toNat_natCast, c10]
  refine ⟨⟨by omega, by omega⟩, ?_⟩
  rw [wr_id (x := W 17 + 1) (by omega) (by omega)]
  refine ok_MA_min ?_
  have hC3 := ((hC.might (k := b) (v := max 0 (W (4 * b) - ru 0)) (by omega)).style (k := b) (v := min 9 (W (4 * b + 2) + 1)) (by omega)).coins (v := min 999 (W 17 + 1)) rK4
  have hW3 : WW K Y (up (up (up W (4 * b) (max 0 (W (4 * b) - ru 0))) (4 * b + 2) (min 9 (W (4 * b + 2) + 1))) 17 (min 999 (W 17 + 1))) := by
    refine WW.upd (WW.upd (WW.upd hW (by omega) (fun k hk => ⟨fun q => (by omega), fun q => (by omega), fun q => (by omega)⟩) (fun k hk q => by omega) (fun q => by omega) (fun q => by omega) (fun q => by omega)) (by omega) (fun k hk => ⟨fun q => (by omega), fun q => (by omega), fun q => (by omega)⟩) (fun k hk q => by omega) (fun q => by omega) (fun q => by omega) (fun q => by omega)) (by omega) (fun k hk => ⟨fun q => (by omega), fun q => (by omega), fun q => (by omega)⟩) (fun k hk q => by omega) (fun q => by omega) (fun q => by omega) (fun q => by omega)
  have e19 : up (up (up W (4 * b) (max 0 (W (4 * b) - ru 0))) (4 * b + 2) (min 9 (W (4 * b + 2) + 1))) 17 (min 999 (W 17 + 1)) 19 = W 19 := by rw [up_ne (by omega), up_ne (by omega), up_ne (by omega)]
  have hF3 : Fr (SW j) σ (sI (sI (sI σ 41 j b (max 0 (W (4 * b) - ru 0))) 43 j b (min 9 (W (4 * b + 2) + 1))) 8 j 10 (min 999 (W 17 + 1))) := ((Fr.rf.sI (SWi (by decide))).sI (SWi (by decide))).sI (SWi (by decide))
  have c8 := hC.2.2.1.1
  simp only [c_ic, c_lc, c_nul, c_il, c_ll, c_al, c_is, c_ls, c_as, c_inc, c_b2, c_b2n, c_b1, c_d2, c_d2n, c_dsh, c_i2l, c_l2i, c_lcm, c_dup, c_dup2, c_pop, c_j1, c_j2, c_jn, c_sw0, c_sw, c_gI, c_gL, c_gR, c_gS, c_pI, c_pZ, c_pL, c_pR, c_iald, c_ialg, c_iast, c_iasg, c_bald, c_bast, c_lald, c_last, c_aald, c_aals, c_aast, c_alen, c_bnd, c_str, c_bndl, c_bnln, c_sval, c_scod, c_sbal, c_sbln, c_fmt, c_stop, c_iret, c_zret, c_nret, c_aret, c_vret, c_lret, c_cpy, c_callV, c_callS, tkA, lget, lput, lkill, jpush, vsz, jcat, lins, lent, List.length_cons, List.length_nil, List.replicate, List.append_nil, List.cons_append, List.nil_append, reduceIte, Nat.reduceAdd, Nat.reduceSub, Nat.reduceEqDiff, true_and, and_true, Nat.reduceLeDiff, Nat.lt_irrefl, Nat.succ_ne_self, forall_const, ne_eq, not_true_eq_false, not_false_eq_true, false_implies, implies_true, true_implies, true_or, or_true, or_false, false_or, eq_self, Int.reduceEq, Int.reduceLT, Int.reduceLE, Int.reduceNeg, Int.reduceToNat, Int.reduceAdd, Int.reduceSub, Int.reduceMul, Int.reduceNe, and_self, g_sI, g_sI2, g_sL1, g_sL, g_sL2, g_sR1, g_sR2, g_sR, g_sA, g_sA2, and_false, false_and, and_self, if_false, if_true, c8]
  unfold wriS at h
  rw [e19] at h
  revert h hC3 hW3 e19 hF3
  generalize up (up (up W (4 * b) (max 0 (W (4 * b) - ru 0))) (4 * b + 2) (min 9 (W (4 * b + 2) + 1))) 17 (min 999 (W 17 + 1)) = V
  generalize sI (sI (sI σ 41 j b (max 0 (W (4 * b) - ru 0))) 43 j b (min 9 (W (4 * b + 2) + 1))) 8 j 10 (min 999 (W 17 + 1)) = τ
  intro h hC3 hW3 e19 hF3
  refine ⟨fun z => ?_, fun z => ?_⟩
  · rw [if_neg (by omega)] at h
    obtain ⟨n, hn⟩ := Int.eq_ofNat_of_zero_le w19.1
    refine fin V τ n (by rw [e19, hn]) (by omega) hW3 hC3 (fun υ u1 u2 => h υ (hF3.tr u1) ?_)
    simp only
    rw [e19, hn, Int.toNat_natCast]
    exact u2
  · have e30 : W 19 = 30 := by omega
    rw [if_pos e30] at h
    refine ok_WO_dropPage (i := 0) hC3 rK4 hW3 (by omega) (fun υ u1 u2 => ?_)
    have e29 : burnS V 0 19 = ((29 : Nat) : Int) := by rw [burn_19, e19, e30]; rfl
    simp only [c_ic, c_lc, c_nul, c_il, c_ll, c_al, c_is, c_ls, c_as, c_inc, c_b2, c_b2n, c_b1, c_d2, c_d2n, c_dsh, c_i2l, c_l2i, c_lcm, c_dup, c_dup2, c_pop, c_j1, c_j2, c_jn, c_sw0, c_sw, c_gI, c_gL, c_gR, c_gS, c_pI, c_pZ, c_pL, c_pR, c_iald, c_ialg, c_iast, c_iasg, c_bald, c_bast, c_lald, c_last, c_aald, c_aals, c_aast, c_alen, c_bnd, c_str, c_bndl, c_bnln, c_sval, c_scod, c_sbal, c_sbln, c_fmt, c_stop, c_iret, c_zret, c_nret, c_aret, c_vret, c_lret, c_cpy, c_callV, c_callS, tkA, lget, lput, lkill, jpush, vsz, jcat, lins, lent, List.length_cons, List.length_nil, List.replicate, List.append_nil, List.cons_append, List.nil_append, reduceIte, Nat.reduceAdd, Nat.reduceSub, Nat.reduceEqDiff, true_and, and_true, Nat.reduceLeDiff, Nat.lt_irrefl, Nat.succ_ne_self, forall_const, ne_eq, not_true_eq_false, not_false_eq_true, false_implies, implies_true, true_implies, true_or, or_true, or_false, false_or, eq_self, Int.reduceEq, Int.reduceLT, Int.reduceLE, Int.reduceNeg, Int.reduceToNat, Int.reduceAdd, Int.reduceSub, Int.reduceMul, Int.reduceNe, and_self]
    refine fin (burnS V 0) υ 29 e29 (by decide) (hW3.burn rK4 (by omega)) u2 (fun φ f1 f2 => h φ ((hF3.tr u1).tr f1) ?_)
    simp only
    rw [e29, Int.toNat_natCast]
    exact f2
/-- what a year may change in the class -/
def SY (j : Nat) : jS := fun k i o => SW j k i o ∨ SP k i o
theorem ok_WO_passYear {σ : jM} {Φ : jPh} {d j r K F : Nat} {ru G W : Nat → Int} {la : Option Nat} {lw : Option (List Int)} {Y : Int} (hC : CW σ j K W) (hL : LWc σ la lw) (hR : CR σ r K F ru G) (hG : RW K F ru G) (hW : WW K Y W) (hY : Y ≤ 1998) (h : ∀ τ, Fr (SY j) σ τ → CW τ j K (yW (ru 0) G W (fld W F) (sidN lw G W (fld W F))) → Φ (some (.inl (yBt G (fld W F) (sidN lw G W (fld W F))))) τ) : Ct (d + 5) M_WO_passYear [rf 8 j, rf 5 r, lv la] σ Φ := by
  refine i_WO_passYear (Nat.le_add_right 3 4) ?_
  have hG' := hG
  obtain ⟨⟨rK, rK4⟩, ⟨rF, rF8⟩, ru0, -, -⟩ := hG'
  have hf : fld W F < F := Nat.mod_lt _ (by omega)
  have w18 := hW.2.2.2.2.1
  simp only [w_WO_passYear_0, c_ic, c_lc, c_nul, c_il, c_ll, c_al, c_is, c_ls, c_as, c_inc, c_b2, c_b2n, c_b1, c_d2, c_d2n, c_dsh, c_i2l, c_l2i, c_lcm, c_dup, c_dup2, c_pop, c_j1, c_j2, c_jn, c_sw0, c_sw, c_gI, c_gL, c_gR, c_gS, c_pI, c_pZ, c_pL, c_pR, c_iald, c_ialg, c_iast, c_iasg, c_bald, c_bast, c_lald, c_last, c_aald, c_aals, c_aast, c_alen, c_bnd, c_str, c_bndl, c_bnln, c_sval, c_scod, c_sbal, c_sbln, c_fmt, c_stop, c_iret, c_zret, c_nret, c_aret, c_vret, c_lret, c_cpy, c_callV, c_callS, tkA, lget, lput, lkill, jpush, vsz, jcat, lins, lent, List.length_cons, List.length_nil, List.replicate, List.append_nil, List.cons_append, List.nil_append, reduceIte, Nat.reduceAdd, Nat.reduceSub, Nat.reduceEqDiff, true_and, and_true, Nat.reduceLeDiff, Nat.lt_irrefl, Nat.succ_ne_self, forall_const, ne_eq, not_true_eq_false, not_false_eq_true, false_implies, implies_true, true_implies, true_or, or_true, or_false, false_or, eq_self, Int.reduceEq, Int.reduceLT, Int.reduceLE, Int.reduceNeg, Int.reduceToNat, Int.reduceAdd, Int.reduceSub, Int.reduceMul, Int.reduceNe, and_self]
  refine ok_WO_nextField hC hR hG hW (by omega) ?_
  simp only [c_ic, c_lc, c_nul, c_il, c_ll, c_al, c_is, c_ls, c_as, c_inc, c_b2, c_b2n, c_b1, c_d2, c_d2n, c_dsh, c_i2l, c_l2i, c_lcm, c_dup, c_dup2, c_pop, c_j1, c_j2, c_jn, c_sw0, c_sw, c_gI, c_gL, c_gR, c_gS, c_pI, c_pZ, c_pL, c_pR, c_iald, c_ialg, c_iast, c_iasg, c_bald, c_bast, c_lald, c_last, c_aald, c_aals, c_aast, c_alen, c_bnd, c_str, c_bndl, c_bnln, c_sval, c_scod, c_sbal, c_sbln, c_fmt, c_stop, c_iret, c_zret, c_nret, c_aret, c_vret, c_lret, c_cpy, c_callV, c_callS, tkA, lget, lput, lkill, jpush, vsz, jcat, lins, lent, List.length_cons, List.length_nil, List.replicate, List.append_nil, List.cons_append, List.nil_append, reduceIte, Nat.reduceAdd, Nat.reduceSub, Nat.reduceEqDiff, true_and, and_true, Nat.reduceLeDiff, Nat.lt_irrefl, Nat.succ_ne_self, forall_const, ne_eq, not_true_eq_false, not_false_eq_true, false_implies, implies_true, true_implies, true_or, or_true, or_false, false_or, eq_self, Int.reduceEq, Int.reduceLT, Int.reduceLE, Int.reduceNeg, Int.reduceToNat, Int.reduceAdd, Int.reduceSub, Int.reduceMul, Int.reduceNe, and_self]
  refine ok_WO_holdsBack (side := 0) hC hR hG hf (by decide) ?_
  simp only [c_ic, c_lc, c_nul, c_il, c_ll, c_al, c_is, c_ls, c_as, c_inc, c_b2, c_b2n, c_b1, c_d2, c_d2n, c_dsh, c_i2l, c_l2i, c_lcm, c_dup, c_dup2, c_pop, c_j1, c_j2, c_jn, c_sw0, c_sw, c_gI, c_gL, c_gR, c_gS, c_pI, c_pZ, c_pL, c_pR, c_iald, c_ialg, c_iast, c_iasg, c_bald, c_bast, c_lald, c_last, c_aald, c_aals, c_aast, c_alen, c_bnd, c_str, c_bndl, c_bnln, c_sval, c_scod, c_sbal, c_sbln, c_fmt, c_stop, c_iret, c_zret, c_nret, c_aret, c_vret, c_lret, c_cpy, c_callV, c_callS, tkA, lget, lput, lkill, jpush, vsz, jcat, lins, lent, List.length_cons, List.length_nil, List.replicate, List.append_nil, List.cons_append, List.nil_append, reduceIte, Nat.reduceAdd, Nat.reduceSub, Nat.reduceEqDiff, true_and, and_true, Nat.reduceLeDiff, Nat.lt_irrefl, Nat.succ_ne_self, forall_const, ne_eq, not_true_eq_false, not_false_eq_true, false_implies, implies_true, true_implies, true_or, or_true, or_false, false_or, eq_self, Int.reduceEq, Int.reduceLT, Int.reduceLE, Int.reduceNeg, Int.reduceToNat, Int.reduceAdd, Int.reduceSub, Int.reduceMul, Int.reduceNe, and_self]
  refine ok_WO_holdsBack (side := 1) hC hR hG hf (by decide) ?_
  simp only [c_ic, c_lc, c_nul, c_il, c_ll, c_al, c_is, c_ls, c_as, c_inc, c_b2, c_b2n, c_b1, c_d2, c_d2n, c_dsh, c_i2l, c_l2i, c_lcm, c_dup, c_dup2, c_pop, c_j1, c_j2, c_jn, c_sw0, c_sw, c_gI, c_gL, c_gR, c_gS, c_pI, c_pZ, c_pL, c_pR, c_iald, c_ialg, c_iast, c_iasg, c_bald, c_bast, c_lald, c_last, c_aald, c_aals, c_aast, c_alen, c_bnd, c_str, c_bndl, c_bnln, c_sval, c_scod, c_sbal, c_sbln, c_fmt, c_stop, c_iret, c_zret, c_nret, c_aret, c_vret, c_lret, c_cpy, c_callV, c_callS, tkA, lget, lput, lkill, jpush, vsz, jcat, lins, lent, List.length_cons, List.length_nil, List.replicate, List.append_nil, List.cons_append, List.nil_append, reduceIte, Nat.reduceAdd, Nat.reduceSub, Nat.reduceEqDiff, true_and, and_true, Nat.reduceLeDiff, Nat.lt_irrefl, Nat.succ_ne_self, forall_const, ne_eq, not_true_eq_false, not_false_eq_true, false_implies, implies_true, true_implies, true_or, or_true, or_false, false_or, eq_self, Int.reduceEq, Int.reduceLT, Int.reduceLE, Int.reduceNeg, Int.reduceToNat, Int.reduceAdd, Int.reduceSub, Int.reduceMul, Int.reduceNe, and_self]
  refine ok_WO_winningSide hC hL hR hG hW (by omega) hf (bt_in _ _) (bt_in _ _) (fun τ t1 => ?_)
  have hC1 := hC.fr t1 (fun k o q => nSP (by omega))
  have hR1 := hR.fr t1 (fun k o q => nSP (by omega))
  have t2 : Fr (SY j) σ τ := t1.wk (fun _ _ _ q => Or.inr q)
  rw [show sidS lw G W (fld W F) (bt (W 16) (G (4 * fld W F + 0)).toNat) (bt (W 16) (G (4 * fld W F + 1)).toNat) = sidN lw G W (fld W F) from rfl]
  have hs3 : sidN lw G W (fld W F) = -1 ∨ sidN lw G W (fld W F) = 0 ∨ sidN lw G W (fld W F) = 1 := sid2_in _ _
  revert h hs3 hf
  generalize sidN lw G W (fld W F) = s
  generalize fld W F = f
  intro h hf hs3
  obtain ⟨q1, q2, q3⟩ := yr_in hG hW hf hs3
  -- the end
  have fin : ∀ (V : Nat → Int) (υ : jM), Fr (SY j) σ υ → CW υ j K V → WW K Y V → V 18 = W 18 → (∀ φ, Fr (SY j) σ φ → CW φ j K (logS (up V 18 (W 18 + 1)) f (yBt G f s) (yTl G W f s)) → Φ (some (.inl (yBt G f s))) φ) → w_WO_passYear_73 Φ (d + 4) [some (rf 8 j), some (rf 5 r), some (lv la), some (.inl f), some (.inl s), some (.inl (yBt G f s)), some (.inl (yTl G W f s))] [] υ := by
    intro V υ hF hc hV h18 hq
    simp only [w_WO_passYear_73, c_ic, c_lc, c_nul, c_il, c_ll, c_al, c_is, c_ls, c_as, c_inc, c_b2, c_b2n, c_b1, c_d2, c_d2n, c_dsh, c_i2l, c_l2i, c_lcm, c_dup, c_dup2, c_pop, c_j1, c_j2, c_jn, c_sw0, c_sw, c_gI, c_gL, c_gR, c_gS, c_pI, c_pZ, c_pL, c_pR, c_iald, c_ialg, c_iast, c_iasg, c_bald, c_bast, c_lald, c_last, c_aald, c_aals, c_aast, c_alen, c_bnd, c_str, c_bndl, c_bnln, c_sval, c_scod, c_sbal, c_sbln, c_fmt, c_stop, c_iret, c_zret, c_nret, c_aret, c_vret, c_lret, c_cpy, c_callV, c_callS, tkA, lget, lput, lkill, jpush, vsz, jcat, lins, lent, List.length_cons, List.length_nil, List.replicate, List.append_nil, List.cons_append, List.nil_append, reduceIte, Nat.reduceAdd, Nat.reduceSub, Nat.reduceEqDiff, true_and, and_true, Nat.reduceLeDiff, Nat.lt_irrefl, Nat.succ_ne_self, forall_const, ne_eq, not_true_eq_false, not_false_eq_true, false_implies, implies_true, true_implies, true_or, or_true, or_false, false_or, eq_self, Int.reduceEq, Int.reduceLT, Int.reduceLE, Int.reduceNeg, Int.reduceToNat, Int.reduceAdd, Int.reduceSub, Int.reduceMul, Int.reduceNe, and_self]
    refine ok_WO_packed (by omega) q1 q2 ?_
    simp only [c_ic, c_lc, c_nul, c_il, c_ll, c_al, c_is, c_ls, c_as, c_inc, c_b2, c_b2n, c_b1, c_d2, c_d2n, c_dsh, c_i2l, c_l2i, c_lcm, c_dup, c_dup2, c_pop, c_j1, c_j2, c_jn, c_sw0, c_sw, c_gI, c_gL, c_gR, c_gS, c_pI, c_pZ, c_pL, c_pR, c_iald, c_ialg, c_iast, c_iasg, c_bald, c_bast, c_lald, c_last, c_aald, c_aals, c_aast, c_alen, c_bnd, c_str, c_bndl, c_bnln, c_sval, c_scod, c_sbal, c_sbln, c_fmt, c_stop, c_iret, c_zret, c_nret, c_aret, c_vret, c_lret, c_cpy, c_callV, c_callS, tkA, lget, lput, lkill, jpush, vsz, jcat, lins, lent, List.length_cons, List.length_nil, List.replicate, List.append_nil, List.cons_append, List.nil_append, reduceIte, Nat.reduceAdd, Nat.reduceSub, Nat.reduceEqDiff, true_and, and_true, Nat.reduceLeDiff, Nat.lt_irrefl, Nat.succ_ne_self, forall_const, ne_eq, not_true_eq_false, not_false_eq_true, false_implies, implies_true, true_implies, true_or, or_true, or_false, false_or, eq_self, Int.reduceEq, Int.reduceLT, Int.reduceLE, Int.reduceNeg, Int.reduceToNat, Int.reduceAdd, Int.reduceSub, Int.reduceMul, Int.reduceNe, and_self]
    refine ok_WO_note hc rK4 hV (fun φ f1 f2 => ?_)
    have c11 := f2.2.2.1.2.2.2
    have l18 : logS V f (yBt G f s) (yTl G W f s) 18 = W 18 := by
      have := congrFun (log_18 (W := V) (f := f) (b := yBt G f s) (t := yTl G W f s) (v := V 18)) 18
      rw [up_eq, up_self] at this
      rw [this, h18]
    simp only [c_ic, c_lc, c_nul, c_il, c_ll, c_al, c_is, c_ls, c_as, c_inc, c_b2, c_b2n, c_b1, c_d2, c_d2n, c_dsh, c_i2l, c_l2i, c_lcm, c_dup, c_dup2, c_pop, c_j1, c_j2, c_jn, c_sw0, c_sw, c_gI, c_gL, c_gR, c_gS, c_pI, c_pZ, c_pL, c_pR, c_iald, c_ialg, c_iast, c_iasg, c_bald, c_bast, c_lald, c_last, c_aald, c_aals, c_aast, c_alen, c_bnd, c_str, c_bndl, c_bnln, c_sval, c_scod, c_sbal, c_sbln, c_fmt, c_stop, c_iret, c_zret, c_nret, c_aret, c_vret, c_lret, c_cpy, c_callV, c_callS, tkA, lget, lput, lkill, jpush, vsz, jcat, lins, lent, List.length_cons, List.length_nil, List.replicate, List.append_nil, List.cons_append, List.nil_append, reduceIte, Nat.reduceAdd, Nat.reduceSub, Nat.reduceEqDiff, true_and, and_true, Nat.reduceLeDiff, Nat.lt_irrefl, Nat.succ_ne_self, forall_const, ne_eq, not_true_eq_false, not_false_eq_true, false_implies, implies_true, true_implies, true_or, or_true, or_false, false_or, eq_self, Int.reduceEq, Int.reduceLT, Int.reduceLE, Int.reduceNeg, Int.reduceToNat, Int.reduceAdd, Int.reduceSub, Int.reduceMul, Int.reduceNe, and_self]
    rw [c11, l18, wr_id (by omega) (by omega)]
    refine hq _ ((hF.tr (f1.wk (fun _ _ _ q => Or.inl q))).sI (Or.inl (SWi (by decide)))) ?_
    rw [log_18]
    exact f2.year rK4
  simp only [c_ic, c_lc, c_nul, c_il, c_ll, c_al, c_is, c_ls, c_as, c_inc, c_b2, c_b2n, c_b1, c_d2, c_d2n, c_dsh, c_i2l, c_l2i, c_lcm, c_dup, c_dup2, c_pop, c_j1, c_j2, c_jn, c_sw0, c_sw, c_gI, c_gL, c_gR, c_gS, c_pI, c_pZ, c_pL, c_pR, c_iald, c_ialg, c_iast, c_iasg, c_bald, c_bast, c_lald, c_last, c_aald, c_aals, c_aast, c_alen, c_bnd, c_str, c_bndl, c_bnln, c_sval, c_scod, c_sbal, c_sbln, c_fmt, c_stop, c_iret, c_zret, c_nret, c_aret, c_vret, c_lret, c_cpy, c_callV, c_callS, tkA, lget, lput, lkill, jpush, vsz, jcat, lins, lent, List.length_cons, List.length_nil, List.replicate, List.append_nil, List.cons_append, List.nil_append, reduceIte, Nat.reduceAdd, Nat.reduceSub, Nat.reduceEqDiff, true_and, and_true, Nat.reduceLeDiff, Nat.lt_irrefl, Nat.succ_ne_self, forall_const, ne_eq, not_true_eq_false, not_false_eq_true, false_implies, implies_true, true_implies, true_or, or_true, or_false, false_or, eq_self, Int.reduceEq, Int.reduceLT, Int.reduceLE, Int.reduceNeg, Int.reduceToNat, Int.reduceAdd, Int.reduceSub, Int.reduceMul, Int.reduceNe, and_self]
  unfold yW yV at h
  refine ⟨fun z => ?_, fun z => ?_⟩
  · rw [if_pos z] at h
    have e1 : yBt G f s = -1 := by unfold yBt; rw [if_pos z]
    have e2 : yTl G W f s = -1 := by unfold yTl; rw [if_pos z]
    have := fin W τ t2 hC1 hW rfl (fun φ f1 f2 => h φ f1 f2)
    rw [e1, e2] at this
    exact this
  · rw [if_neg z] at h
    obtain ⟨b1, b2, b3, b4⟩ := q3 z
    obtain ⟨won, hwon⟩ := Int.eq_ofNat_of_zero_le b2.1
    obtain ⟨b, hb⟩ := Int.eq_ofNat_of_zero_le b1.1
    have hs01 : s = 0 ∨ s = 1 := by omega
    have em : G (4 * f + s.toNat) = won := by
      rw [← hwon]
      unfold yWon
      rcases hs01 with rfl | rfl <;> rfl
    have eb : G (4 * f + (1 - s).toNat) = b := by
      rw [← hb]
      unfold yBt
      rcases hs01 with rfl | rfl <;> rfl
    rw [show (Sum.inl s : jV) = Sum.inl ((s.toNat : Nat) : Int) by rw [show ((s.toNat : Nat) : Int) = s by omega]]
    refine ok_RE_meeting hR1 hf rF8 (by omega) ?_
    rw [em]
    simp only [c_ic, c_lc, c_nul, c_il, c_ll, c_al, c_is, c_ls, c_as, c_inc, c_b2, c_b2n, c_b1, c_d2, c_d2n, c_dsh, c_i2l, c_l2i, c_lcm, c_dup, c_dup2, c_pop, c_j1, c_j2, c_jn, c_sw0, c_sw, c_gI, c_gL, c_gR, c_gS, c_pI, c_pZ, c_pL, c_pR, c_iald, c_ialg, c_iast, c_iasg, c_bald, c_bast, c_lald, c_last, c_aald, c_aals, c_aast, c_alen, c_bnd, c_str, c_bndl, c_bnln, c_sval, c_scod, c_sbal, c_sbln, c_fmt, c_stop, c_iret, c_zret, c_nret, c_aret, c_vret, c_lret, c_cpy, c_callV, c_callS, tkA, lget, lput, lkill, jpush, vsz, jcat, lins, lent, List.length_cons, List.length_nil, List.replicate, List.append_nil, List.cons_append, List.nil_append, reduceIte, Nat.reduceAdd, Nat.reduceSub, Nat.reduceEqDiff, true_and, and_true, Nat.reduceLeDiff, Nat.lt_irrefl, Nat.succ_ne_self, forall_const, ne_eq, not_true_eq_false, not_false_eq_true, false_implies, implies_true, true_implies, true_or, or_true, or_false, false_or, eq_self, Int.reduceEq, Int.reduceLT, Int.reduceLE, Int.reduceNeg, Int.reduceToNat, Int.reduceAdd, Int.reduceSub, Int.reduceMul, Int.reduceNe, and_self]
    have c44 := (hC1.2.1 won (by omega)).1
    have w3 := (hW.2.1 won (by omega)).1
    refine ok_WO_win (by omega) (by rw [c44]; exact w3) ?_
    rw [c44]
    simp only [c_ic, c_lc, c_nul, c_il, c_ll, c_al, c_is, c_ls, c_as, c_inc, c_b2, c_b2n, c_b1, c_d2, c_d2n, c_dsh, c_i2l, c_l2i, c_lcm, c_dup, c_dup2, c_pop, c_j1, c_j2, c_jn, c_sw0, c_sw, c_gI, c_gL, c_gR, c_gS, c_pI, c_pZ, c_pL, c_pR, c_iald, c_ialg, c_iast, c_iasg, c_bald, c_bast, c_lald, c_last, c_aald, c_aals, c_aast, c_alen, c_bnd, c_str, c_bndl, c_bnln, c_sval, c_scod, c_sbal, c_sbln, c_fmt, c_stop, c_iret, c_zret, c_nret, c_aret, c_vret, c_lret, c_cpy, c_callV, c_callS, tkA, lget, lput, lkill, jpush, vsz, jcat, lins, lent, List.length_cons, List.length_nil, List.replicate, List.append_nil, List.cons_append, List.nil_append, reduceIte, Nat.reduceAdd, Nat.reduceSub, Nat.reduceEqDiff, true_and, and_true, Nat.reduceLeDiff, Nat.lt_irrefl, Nat.succ_ne_self, forall_const, ne_eq, not_true_eq_false, not_false_eq_true, false_implies, implies_true, true_implies, true_or, or_true, or_false, false_or, eq_self, Int.reduceEq, Int.reduceLT, Int.reduceLE, Int.reduceNeg, Int.reduceToNat, Int.reduceAdd, Int.reduceSub, Int.reduceMul, Int.reduceNe, and_self]
    have hC2 := hC1.wins (k := won) (v := min 999 (W (4 * won + 3) + 1)) (by omega)
    have t3 : Fr (SY j) σ (sI τ 44 j won (min 999 (W (4 * won + 3) + 1))) := t2.sI (Or.inl (SWi (by decide)))
    have hR2 : CR (sI τ 44 j won (min 999 (W (4 * won + 3) + 1))) r K F ru G := hR1.fr (S := fun k _ _ => k = 44) (Fr.rf.sI rfl) (fun k o q => by omega)
    have hW2 : WW K Y (up W (4 * won + 3) (min 999 (W (4 * won + 3) + 1))) := WW.upd hW (by omega) (fun k hk => ⟨fun q => (by omega), fun q => (by omega), fun q => (by omega)⟩) (fun k hk q => ⟨by omega, fun q2 => by omega⟩) (fun q => by omega) (fun q => by omega) (fun q => by omega)
    rw [wr_id (x := 1 - s) (by omega) (by omega), show 1 - s = (((1 - s).toNat : Nat) : Int) by omega]
    refine ok_RE_meeting hR2 hf rF8 (by omega) ?_
    rw [eb]
    simp only [c_ic, c_lc, c_nul, c_il, c_ll, c_al, c_is, c_ls, c_as, c_inc, c_b2, c_b2n, c_b1, c_d2, c_d2n, c_dsh, c_i2l, c_l2i, c_lcm, c_dup, c_dup2, c_pop, c_j1, c_j2, c_jn, c_sw0, c_sw, c_gI, c_gL, c_gR, c_gS, c_pI, c_pZ, c_pL, c_pR, c_iald, c_ialg, c_iast, c_iasg, c_bald, c_bast, c_lald, c_last, c_aald, c_aals, c_aast, c_alen, c_bnd, c_str, c_bndl, c_bnln, c_sval, c_scod, c_sbal, c_sbln, c_fmt, c_stop, c_iret, c_zret, c_nret, c_aret, c_vret, c_lret, c_cpy, c_callV, c_callS, tkA, lget, lput, lkill, jpush, vsz, jcat, lins, lent, List.length_cons, List.length_nil, List.replicate, List.append_nil, List.cons_append, List.nil_append, reduceIte, Nat.reduceAdd, Nat.reduceSub, Nat.reduceEqDiff, true_and, and_true, Nat.reduceLeDiff, Nat.lt_irrefl, Nat.succ_ne_self, forall_const, ne_eq, not_true_eq_false, not_false_eq_true, false_implies, implies_true, true_implies, true_or, or_true, or_false, false_or, eq_self, Int.reduceEq, Int.reduceLT, Int.reduceLE, Int.reduceNeg, Int.reduceToNat, Int.reduceAdd, Int.reduceSub, Int.reduceMul, Int.reduceNe, and_self]
    refine ok_WO_lose hC2 hR2 hG hW2 hf (by omega) (fun υ u1 u2 => ?_)
    have n1 : 4 * b ≠ 4 * won + 3 := by omega
    have n2 : 4 * b + 2 ≠ 4 * won + 3 := by omega
    have n3 : 4 * b + 1 ≠ 4 * won + 3 := by omega
    have n4 : 17 ≠ 4 * won + 3 := by omega
    rw [up_ne n1, up_ne n2, up_ne n3, up_ne n4] at u2
    rw [up_ne n3]
    rw [wri_17] at u2
    simp only [c_ic, c_lc, c_nul, c_il, c_ll, c_al, c_is, c_ls, c_as, c_inc, c_b2, c_b2n, c_b1, c_d2, c_d2n, c_dsh, c_i2l, c_l2i, c_lcm, c_dup, c_dup2, c_pop, c_j1, c_j2, c_jn, c_sw0, c_sw, c_gI, c_gL, c_gR, c_gS, c_pI, c_pZ, c_pL, c_pR, c_iald, c_ialg, c_iast, c_iasg, c_bald, c_bast, c_lald, c_last, c_aald, c_aals, c_aast, c_alen, c_bnd, c_str, c_bndl, c_bnln, c_sval, c_scod, c_sbal, c_sbln, c_fmt, c_stop, c_iret, c_zret, c_nret, c_aret, c_vret, c_lret, c_cpy, c_callV, c_callS, tkA, lget, lput, lkill, jpush, vsz, jcat, lins, lent, List.length_cons, List.length_nil, List.replicate, List.append_nil, List.cons_append, List.nil_append, reduceIte, Nat.reduceAdd, Nat.reduceSub, Nat.reduceEqDiff, true_and, and_true, Nat.reduceLeDiff, Nat.lt_irrefl, Nat.succ_ne_self, forall_const, ne_eq, not_true_eq_false, not_false_eq_true, false_implies, implies_true, true_implies, true_or, or_true, or_false, false_or, eq_self, Int.reduceEq, Int.reduceLT, Int.reduceLE, Int.reduceNeg, Int.reduceToNat, Int.reduceAdd, Int.reduceSub, Int.reduceMul, Int.reduceNe, and_self]
    have eT : yTl G W f s = G (4 * f + 3) + W (4 * b + 1) := by rw [b4, hb, Int.toNat_natCast]
    rw [hb, hwon, Int.toNat_natCast, Int.toNat_natCast, eT] at h
    have hWw : WW K Y (up (wriS (yV3 (ru 0) W won b) f b (G (4 * f + 3) + W (4 * b + 1))) 17 (min 999 (W 17 + 1))) := by
      have w17 := hW.2.2.2.1
      have m1 := hW.1 b (by omega)
      refine WW.upd (WW.wri ?_ rK4 (by omega) (by omega) (by omega)) (by decide) (fun k hk => ⟨fun q => (by omega), fun q => (by omega), fun q => (by omega)⟩) (fun k hk q => by omega) (fun q => by omega) (fun q => by omega) (fun q => by omega)
      unfold yV3
      exact WW.upd (WW.upd hW2 (by omega) (fun k hk => ⟨fun q => (by omega), fun q => (by omega), fun q => (by omega)⟩) (fun k hk q => by omega) (fun q => by omega) (fun q => by omega) (fun q => by omega)) (by omega) (fun k hk => ⟨fun q => (by omega), fun q => (by omega), fun q => (by omega)⟩) (fun k hk q => by omega) (fun q => by omega) (fun q => by omega) (fun q => by omega)
    have := fin (up (wriS (yV3 (ru 0) W won b) f b (G (4 * f + 3) + W (4 * b + 1))) 17 (min 999 (W 17 + 1))) υ (t3.tr (u1.wk (fun _ _ _ q => Or.inl q))) u2 hWw (by
      rw [up_ne (by decide), wriS_lo (Or.inl (by decide))]
      unfold yV3
      rw [up_ne (by omega), up_ne (by omega), up_ne (by omega)]) (fun φ f1 f2 => by rw [eT, hb] at f2; rw [hb]; exact h φ f1 f2)
    rw [hb, eT] at this
    rw [show ((s.toNat : Nat) : Int) = s by omega]
    exact this
