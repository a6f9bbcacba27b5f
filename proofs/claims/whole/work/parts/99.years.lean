/-! ===== 99 pairs: years ===== -/
def dn (x : Int) : Int := wl (wl (x * 6364136223846793005) + 1442695040888963407)
def dv (x m : Int) : Int := wr (lrm (lush x 33) m)
theorem sh33 : ((Int32.ofInt 33).toInt64.toUInt64 &&& Int64.toUInt64 63) = 33 := by decide +kernel
theorem lush_in (x : Int) : 0 ≤ lush x 33 ∧ lush x 33 < 2147483648 := by
  unfold lush
  rw [sh33]
  generalize (Int64.ofInt x).toUInt64 = u
  have h1 : (u >>> 33).toBitVec.toNat = u.toNat / 2 ^ 33 := by
    have := UInt64.toNat_shiftRight u 33
    rw [show (33 : UInt64).toNat % 64 = 33 by decide, Nat.shiftRight_eq_div_pow] at this
    exact this
  have h2 : u.toNat < 2 ^ 64 := UInt64.toNat_lt u
  have h3 : (u >>> 33).toInt64.toInt = ((u >>> 33).toBitVec.toNat : Int) := by
    show (u >>> 33).toBitVec.toInt = _
    exact BitVec.toInt_eq_toNat_of_lt (by rw [h1]; omega)
  rw [h3, h1]
  omega
theorem dv_in (x : Int) {m : Int} (h1 : 1 ≤ m) (h2 : m ≤ 10) : 0 ≤ dv x m ∧ dv x m < m := by
  have h := lush_in x
  unfold dv
  rw [lrm_eq h.1 (by omega) (by omega) (by omega)]
  have a := Int.emod_nonneg (lush x 33) (show m ≠ 0 by omega)
  have b := Int.emod_lt_of_pos (lush x 33) (show 0 < m by omega)
  rw [wr_id (by omega) (by omega)]
  exact ⟨a, b⟩
theorem ok_DI_draw {σ : jM} {Φ : jPh} {d : Nat} {m : Int} (hm : 1 ≤ m) (h : Φ (some (.inl (dv (dn (σ.2.1 2 0 0)) m))) (sL σ 2 0 0 (dn (σ.2.1 2 0 0)))) : Ct (d + 1) M_DI_draw [rf 2 0, .inl m] σ Φ := by
  refine i_DI_draw (Nat.le_refl 2) ?_
  simp only [w_DI_draw_35, w_DI_draw_34, w_DI_draw_0, c_ic, c_lc, c_nul, c_il, c_ll, c_al, c_is, c_ls, c_as, c_inc, c_b2, c_b2n, c_b1, c_d2, c_d2n, c_dsh, c_i2l, c_l2i, c_lcm, c_dup, c_dup2, c_pop, c_j1, c_j2, c_jn, c_sw0, c_sw, c_gI, c_gL, c_gR, c_gS, c_pI, c_pZ, c_pL, c_pR, c_iald, c_ialg, c_iast, c_iasg, c_bald, c_bast, c_lald, c_last, c_aald, c_aals, c_aast, c_alen, c_bnd, c_str, c_bndl, c_bnln, c_sval, c_scod, c_sbal, c_sbln, c_fmt, c_stop, c_iret, c_zret, c_nret, c_aret, c_vret, c_lret, c_cpy, c_callV, c_callS, tkA, lget, lput, lkill, jpush, vsz, jcat, lins, lent, List.length_cons, List.length_nil, List.replicate, List.append_nil, List.cons_append, List.nil_append, reduceIte, Nat.reduceAdd, Nat.reduceSub, Nat.reduceEqDiff, true_and, and_true, Nat.reduceLeDiff, Nat.lt_irrefl, Nat.succ_ne_self, forall_const, ne_eq, not_true_eq_false, not_false_eq_true, false_implies, implies_true, true_implies, true_or, or_true, or_false, false_or, eq_self, Int.reduceEq, Int.reduceLT, Int.reduceLE, Int.reduceNeg, Int.reduceToNat, Int.reduceAdd, Int.reduceSub, Int.reduceMul, Int.reduceNe, and_self, g_sI, g_sI2, g_sL1, g_sL, g_sL2, g_sR1, g_sR2, g_sR, g_sA, g_sA2, and_false, false_and, and_self, if_false, if_true]
  exact ⟨fun z => absurd z (by omega), fun _ => ⟨by omega, h⟩⟩
theorem ok_MO_draw {σ : jM} {Φ : jPh} {d : Nat} {m : Int} (hm : 1 ≤ m) (h : Φ (some (.inl (dv (dn (σ.2.1 10 0 40)) m))) (sL σ 10 0 40 (dn (σ.2.1 10 0 40)))) : Ct (d + 1) M_MO_draw [rf 10 0, .inl m] σ Φ := by
  refine i_MO_draw (Nat.le_refl 2) ?_
  simp only [w_MO_draw_0, c_ic, c_lc, c_nul, c_il, c_ll, c_al, c_is, c_ls, c_as, c_inc, c_b2, c_b2n, c_b1, c_d2, c_d2n, c_dsh, c_i2l, c_l2i, c_lcm, c_dup, c_dup2, c_pop, c_j1, c_j2, c_jn, c_sw0, c_sw, c_gI, c_gL, c_gR, c_gS, c_pI, c_pZ, c_pL, c_pR, c_iald, c_ialg, c_iast, c_iasg, c_bald, c_bast, c_lald, c_last, c_aald, c_aals, c_aast, c_alen, c_bnd, c_str, c_bndl, c_bnln, c_sval, c_scod, c_sbal, c_sbln, c_fmt, c_stop, c_iret, c_zret, c_nret, c_aret, c_vret, c_lret, c_cpy, c_callV, c_callS, tkA, lget, lput, lkill, jpush, vsz, jcat, lins, lent, List.length_cons, List.length_nil, List.replicate, List.append_nil, List.cons_append, List.nil_append, reduceIte, Nat.reduceAdd, Nat.reduceSub, Nat.reduceEqDiff, true_and, and_true, Nat.reduceLeDiff, Nat.lt_irrefl, Nat.succ_ne_self, forall_const, ne_eq, not_true_eq_false, not_false_eq_true, false_implies, implies_true, true_implies, true_or, or_true, or_false, false_or, eq_self, Int.reduceEq, Int.reduceLT, Int.reduceLE, Int.reduceNeg, Int.reduceToNat, Int.reduceAdd, Int.reduceSub, Int.reduceMul, Int.reduceNe, and_self, g_sI, g_sI2, g_sL1, g_sL, g_sL2, g_sR1, g_sR2, g_sR, g_sA, g_sA2, and_false, false_and, and_self, if_false, if_true]
  exact ⟨by omega, h⟩
def yd1 (ig : Int) (K : Nat) (x : Int) (W : Nat → Int) : Int × (Nat → Int) := if dv (dn x) 10 < ig then (dn (dn x), up W 16 (jxor (W 16) (jshl 1 (dv (dn (dn x)) K)))) else (dn x, W)
def yd2 (K : Nat) (x : Int) (W : Nat → Int) : Int × (Nat → Int) := if dv (dn x) 10 < 7 then (dn x, W) else (dn (dn x), up W (4 * (dv (dn (dn x)) K).toNat) (min 30 (W (4 * (dv (dn (dn x)) K).toNat) + 2)))
def yq (ig : Int) (K : Nat) (s : Int × (Nat → Int)) : Int × (Nat → Int) := yd2 K (yd1 ig K s.1 s.2).1 (yd1 ig K s.1 s.2).2
theorem yd1OK {K F : Nat} {W : Nat → Int} {Y ig x : Int} (hK : 1 ≤ K ∧ K ≤ 4) (hW : WW K Y W) (hP : PF F W) : WW K Y (yd1 ig K x W).2 ∧ PF F (yd1 ig K x W).2 := by
  unfold yd1
  split
  · have ht := dv_in (dn (dn x)) (m := K) (by omega) (by omega)
    obtain ⟨t, ht2⟩ := Int.eq_ofNat_of_zero_le ht.1
    have x16 := hW.2.2.1
    obtain ⟨y, hy⟩ := Int.eq_ofNat_of_zero_le x16.1
    have hy2 : y < 2 ^ K := by
      have := x16.2
      rw [hy] at this
      exact_mod_cast this
    have xr := xor_r K hK.2 y hy2 t (by omega)
    rw [ht2]
    simp only
    rw [hy]
    exact ⟨hW.upd (by decide) (fun k hk => ⟨fun q => (by omega), fun q => (by omega), fun q => (by omega)⟩) (fun k hk q => by omega) (fun q => xr) (fun q => by omega) (fun q => by omega), hP.upl (by decide)⟩
  · exact ⟨hW, hP⟩
theorem yd2OK {K F : Nat} {W : Nat → Int} {Y x : Int} (hK : 1 ≤ K ∧ K ≤ 4) (hW : WW K Y W) (hP : PF F W) : WW K Y (yd2 K x W).2 ∧ PF F (yd2 K x W).2 := by
  unfold yd2
  split
  · exact ⟨hW, hP⟩
  · have ht := dv_in (dn (dn x)) (m := K) (by omega) (by omega)
    obtain ⟨t, ht2⟩ := Int.eq_ofNat_of_zero_le ht.1
    have xk := hW.1 t (by omega)
    rw [ht2]
    simp only [Int.toNat_natCast]
    exact ⟨hW.upd (by omega) (fun k hk => ⟨fun q => (by omega), fun q => (by omega), fun q => (by omega)⟩) (fun k hk q => by omega) (fun q => by omega) (fun q => by omega) (fun q => by omega), hP.upl (by omega)⟩
theorem yqOK {K F : Nat} {s : Int × (Nat → Int)} {Y ig : Int} (hK : 1 ≤ K ∧ K ≤ 4) (hW : WW K Y s.2) (hP : PF F s.2) : WW K Y (yq ig K s).2 ∧ PF F (yq ig K s).2 := by
  have h := yd1OK (ig := ig) (x := s.1) hK hW hP
  exact yd2OK hK h.1 h.2
def zI (lw : Option (List Int)) (ru G : Nat → Int) (F : Nat) (ig : Int) (K : Nat) (s : Int × (Nat → Int)) : Nat → Int × (Nat → Int)
  | 0 => s
  | i + 1 => ((yq ig K (zI lw ru G F ig K s i)).1, yS lw ru G F (yq ig K (zI lw ru G F ig K s i)).2)
theorem zI_ok {lw : Option (List Int)} {K F : Nat} {ru G : Nat → Int} {s : Int × (Nat → Int)} {Y ig : Int} (hR : RW K F ru G) (hW : WW K Y s.2) (hP : PF F s.2) : ∀ i : Nat, WW K (Y + i) (zI lw ru G F ig K s i).2 ∧ PF F (zI lw ru G F ig K s i).2
  | 0 => by rw [show Y + ((0 : Nat) : Int) = Y by omega]; exact ⟨hW, hP⟩
  | i + 1 => by
    have ih := zI_ok (lw := lw) (ig := ig) hR hW hP i
    have h1 := yqOK (ig := ig) (show 1 ≤ K ∧ K ≤ 4 by have := hR.1; omega) ih.1 ih.2
    have h2 := yearOK (lw := lw) hR h1.1 h1.2
    rw [show Y + ((i + 1 : Nat) : Int) = Y + i + 1 by omega]
    exact h2
def SDr : jS := fun k j o => SW 0 k j o ∨ (k = 2 ∧ j = 0)
theorem ok_LB_drawAheadOfYear {σ : jM} {Φ : jPh} {d K F r : Nat} {W : Nat → Int} {ig x Y : Int} (hR : JR σ K F r) (hK : 1 ≤ K) (hg : σ.1 9 0 17 = ig) (hx : σ.2.1 2 0 0 = x) (hC : CW σ 0 K W) (hW : WW K Y W) (hPF : PF F W) (h : ∀ τ, Fr SDr σ τ → τ.2.1 2 0 0 = (yq ig K (x, W)).1 → CW τ 0 K (yq ig K (x, W)).2 → Φ none τ) : Ct (d + 2) M_LB_drawAheadOfYear [rf 9 0] σ Φ := by
  have K4 := hR.2.2.2.2.2.2.2.1
  refine i_LB_drawAheadOfYear (Nat.le_succ 1) ?_
  have second : ∀ (τ : jM) (y : Option jV), Fr SDr σ τ → τ.2.1 2 0 0 = (yd1 ig K x W).1 → CW τ 0 K (yd1 ig K x W).2 → w_LB_drawAheadOfYear_59 Φ (d + 1) [some (rf 9 0), y] [] τ := by
    intro τ y t1 t2 t3
    have hR1 : JR τ K F r := hR.fr t1 (fun k j o q w => by simp only [fR, SDr, SW] at q w; have := hR.2.2.1; omega)
    have wOK := (yd1OK (ig := ig) (x := x) ⟨hK, K4⟩ hW hPF).1
    unfold yq yd2 at h
    simp only at h
    generalize (yd1 ig K x W).1 = x1 at *
    generalize (yd1 ig K x W).2 = W1 at *
    simp only [w_LB_drawAheadOfYear_59, c_ic, c_lc, c_nul, c_il, c_ll, c_al, c_is, c_ls, c_as, c_inc, c_b2, c_b2n, c_b1, c_d2, c_d2n, c_dsh, c_i2l, c_l2i, c_lcm, c_dup, c_dup2, c_pop, c_j1, c_j2, c_jn, c_sw0, c_sw, c_gI, c_gL, c_gR, c_gS, c_pI, c_pZ, c_pL, c_pR, c_iald, c_ialg, c_iast, c_iasg, c_bald, c_bast, c_lald, c_last, c_aald, c_aals, c_aast, c_alen, c_bnd, c_str, c_bndl, c_bnln, c_sval, c_scod, c_sbal, c_sbln, c_fmt, c_stop, c_iret, c_zret, c_nret, c_aret, c_vret, c_lret, c_cpy, c_callV, c_callS, tkA, lget, lput, lkill, jpush, vsz, jcat, lins, lent, List.length_cons, List.length_nil, List.replicate, List.append_nil, List.cons_append, List.nil_append, reduceIte, Nat.reduceAdd, Nat.reduceSub, Nat.reduceEqDiff, true_and, and_true, Nat.reduceLeDiff, Nat.lt_irrefl, Nat.succ_ne_self, forall_const, ne_eq, not_true_eq_false, not_false_eq_true, false_implies, implies_true, true_implies, true_or, or_true, or_false, false_or, eq_self, Int.reduceEq, Int.reduceLT, Int.reduceLE, Int.reduceNeg, Int.reduceToNat, Int.reduceAdd, Int.reduceSub, Int.reduceMul, Int.reduceNe, and_self]
    refine ok_DI_draw (by decide) ?_
    rw [t2]
    simp only [c_ic, c_lc, c_nul, c_il, c_ll, c_al, c_is, c_ls, c_as, c_inc, c_b2, c_b2n, c_b1, c_d2, c_d2n, c_dsh, c_i2l, c_l2i, c_lcm, c_dup, c_dup2, c_pop, c_j1, c_j2, c_jn, c_sw0, c_sw, c_gI, c_gL, c_gR, c_gS, c_pI, c_pZ, c_pL, c_pR, c_iald, c_ialg, c_iast, c_iasg, c_bald, c_bast, c_lald, c_last, c_aald, c_aals, c_aast, c_alen, c_bnd, c_str, c_bndl, c_bnln, c_sval, c_scod, c_sbal, c_sbln, c_fmt, c_stop, c_iret, c_zret, c_nret, c_aret, c_vret, c_lret, c_cpy, c_callV, c_callS, tkA, lget, lput, lkill, jpush, vsz, jcat, lins, lent, List.length_cons, List.length_nil, List.replicate, List.append_nil, List.cons_append, List.nil_append, reduceIte, Nat.reduceAdd, Nat.reduceSub, Nat.reduceEqDiff, true_and, and_true, Nat.reduceLeDiff, Nat.lt_irrefl, Nat.succ_ne_self, forall_const, ne_eq, not_true_eq_false, not_false_eq_true, false_implies, implies_true, true_implies, true_or, or_true, or_false, false_or, eq_self, Int.reduceEq, Int.reduceLT, Int.reduceLE, Int.reduceNeg, Int.reduceToNat, Int.reduceAdd, Int.reduceSub, Int.reduceMul, Int.reduceNe, and_self, w_LB_drawAheadOfYear_121, hR1.1, hR1.2.2.2.1, g_sL1, g_sL2]
    refine ⟨fun z => ?_, fun z => ?_⟩
    · refine h _ (t1.sL (Or.inr ⟨rfl, rfl⟩)) ?_ ?_
      · rw [if_pos z]; simp only [g_sL, and_self, if_true]
      · rw [if_pos z]
        exact t3.fr (S := fun k _ _ => k = 2) (Fr.rf.sL rfl) (fun k o q w => by omega)
    · refine ok_DI_draw (by omega) ?_
      simp only [c_ic, c_lc, c_nul, c_il, c_ll, c_al, c_is, c_ls, c_as, c_inc, c_b2, c_b2n, c_b1, c_d2, c_d2n, c_dsh, c_i2l, c_l2i, c_lcm, c_dup, c_dup2, c_pop, c_j1, c_j2, c_jn, c_sw0, c_sw, c_gI, c_gL, c_gR, c_gS, c_pI, c_pZ, c_pL, c_pR, c_iald, c_ialg, c_iast, c_iasg, c_bald, c_bast, c_lald, c_last, c_aald, c_aals, c_aast, c_alen, c_bnd, c_str, c_bndl, c_bnln, c_sval, c_scod, c_sbal, c_sbln, c_fmt, c_stop, c_iret, c_zret, c_nret, c_aret, c_vret, c_lret, c_cpy, c_callV, c_callS, tkA, lget, lput, lkill, jpush, vsz, jcat, lins, lent, List.length_cons, List.length_nil, List.replicate, List.append_nil, List.cons_append, List.nil_append, reduceIte, Nat.reduceAdd, Nat.reduceSub, Nat.reduceEqDiff, true_and, and_true, Nat.reduceLeDiff, Nat.lt_irrefl, Nat.succ_ne_self, forall_const, ne_eq, not_true_eq_false, not_false_eq_true, false_implies, implies_true, true_implies, true_or, or_true, or_false, false_or, eq_self, Int.reduceEq, Int.reduceLT, Int.reduceLE, Int.reduceNeg, Int.reduceToNat, Int.reduceAdd, Int.reduceSub, Int.reduceMul, Int.reduceNe, and_self, g_sI, g_sI2, g_sL1, g_sL, g_sL2, g_sR1, g_sR2, g_sR, g_sA, g_sA2, and_false, false_and, and_self, if_false, if_true]
      have ht := dv_in (dn (dn x1)) (m := K) (by omega) (by omega)
      have h2 : JR (sL (sL τ 2 0 0 (dn x1)) 2 0 0 (dn (dn x1))) K F r := hR1.fr (S := fun k _ _ => k = 2) ((Fr.rf.sL rfl).sL rfl) (fun k j o q w => by unfold fR at q; omega)
      have t3' : CW (sL (sL τ 2 0 0 (dn x1)) 2 0 0 (dn (dn x1))) 0 K W1 := t3.fr (S := fun k _ _ => k = 2) ((Fr.rf.sL rfl).sL rfl) (fun k o q w => by omega)
      have t1' : Fr SDr σ (sL (sL τ 2 0 0 (dn x1)) 2 0 0 (dn (dn x1))) := (t1.sL (Or.inr ⟨rfl, rfl⟩)).sL (Or.inr ⟨rfl, rfl⟩)
      refine ok_LB_isKingdom h2 ?_
      rw [if_pos ht]
      obtain ⟨t, htt⟩ := Int.eq_ofNat_of_zero_le ht.1
      have m1 := (t3'.1 t (by omega)).1
      have xk := wOK.1 t (by omega)
      rw [if_neg z, htt, Int.toNat_natCast] at h
      rw [htt] at ht ⊢
      simp only [c_ic, c_lc, c_nul, c_il, c_ll, c_al, c_is, c_ls, c_as, c_inc, c_b2, c_b2n, c_b1, c_d2, c_d2n, c_dsh, c_i2l, c_l2i, c_lcm, c_dup, c_dup2, c_pop, c_j1, c_j2, c_jn, c_sw0, c_sw, c_gI, c_gL, c_gR, c_gS, c_pI, c_pZ, c_pL, c_pR, c_iald, c_ialg, c_iast, c_iasg, c_bald, c_bast, c_lald, c_last, c_aald, c_aals, c_aast, c_alen, c_bnd, c_str, c_bndl, c_bnln, c_sval, c_scod, c_sbal, c_sbln, c_fmt, c_stop, c_iret, c_zret, c_nret, c_aret, c_vret, c_lret, c_cpy, c_callV, c_callS, tkA, lget, lput, lkill, jpush, vsz, jcat, lins, lent, List.length_cons, List.length_nil, List.replicate, List.append_nil, List.cons_append, List.nil_append, reduceIte, Nat.reduceAdd, Nat.reduceSub, Nat.reduceEqDiff, true_and, and_true, Nat.reduceLeDiff, Nat.lt_irrefl, Nat.succ_ne_self, forall_const, ne_eq, not_true_eq_false, not_false_eq_true, false_implies, implies_true, true_implies, true_or, or_true, or_false, false_or, eq_self, Int.reduceEq, Int.reduceLT, Int.reduceLE, Int.reduceNeg, Int.reduceToNat, Int.reduceAdd, Int.reduceSub, Int.reduceMul, Int.reduceNe, and_self, Int.toNat_natCast, m1]
      refine ⟨⟨by omega, by omega⟩, ?_⟩
      rw [wr_id (by omega) (by omega)]
      refine ok_MA_min ?_
      simp only [c_ic, c_lc, c_nul, c_il, c_ll, c_al, c_is, c_ls, c_as, c_inc, c_b2, c_b2n, c_b1, c_d2, c_d2n, c_dsh, c_i2l, c_l2i, c_lcm, c_dup, c_dup2, c_pop, c_j1, c_j2, c_jn, c_sw0, c_sw, c_gI, c_gL, c_gR, c_gS, c_pI, c_pZ, c_pL, c_pR, c_iald, c_ialg, c_iast, c_iasg, c_bald, c_bast, c_lald, c_last, c_aald, c_aals, c_aast, c_alen, c_bnd, c_str, c_bndl, c_bnln, c_sval, c_scod, c_sbal, c_sbln, c_fmt, c_stop, c_iret, c_zret, c_nret, c_aret, c_vret, c_lret, c_cpy, c_callV, c_callS, tkA, lget, lput, lkill, jpush, vsz, jcat, lins, lent, List.length_cons, List.length_nil, List.replicate, List.append_nil, List.cons_append, List.nil_append, reduceIte, Nat.reduceAdd, Nat.reduceSub, Nat.reduceEqDiff, true_and, and_true, Nat.reduceLeDiff, Nat.lt_irrefl, Nat.succ_ne_self, forall_const, ne_eq, not_true_eq_false, not_false_eq_true, false_implies, implies_true, true_implies, true_or, or_true, or_false, false_or, eq_self, Int.reduceEq, Int.reduceLT, Int.reduceLE, Int.reduceNeg, Int.reduceToNat, Int.reduceAdd, Int.reduceSub, Int.reduceMul, Int.reduceNe, and_self, Int.toNat_natCast]
      refine ⟨⟨by omega, by omega⟩, h _ (t1'.sI (Or.inl (SWi (by decide)))) ?_ ?_⟩
      · simp only [g_sI2, g_sL, and_self, if_true]
      · exact t3'.might (by omega)
  simp only [w_LB_drawAheadOfYear_0, c_ic, c_lc, c_nul, c_il, c_ll, c_al, c_is, c_ls, c_as, c_inc, c_b2, c_b2n, c_b1, c_d2, c_d2n, c_dsh, c_i2l, c_l2i, c_lcm, c_dup, c_dup2, c_pop, c_j1, c_j2, c_jn, c_sw0, c_sw, c_gI, c_gL, c_gR, c_gS, c_pI, c_pZ, c_pL, c_pR, c_iald, c_ialg, c_iast, c_iasg, c_bald, c_bast, c_lald, c_last, c_aald, c_aals, c_aast, c_alen, c_bnd, c_str, c_bndl, c_bnln, c_sval, c_scod, c_sbal, c_sbln, c_fmt, c_stop, c_iret, c_zret, c_nret, c_aret, c_vret, c_lret, c_cpy, c_callV, c_callS, tkA, lget, lput, lkill, jpush, vsz, jcat, lins, lent, List.length_cons, List.length_nil, List.replicate, List.append_nil, List.cons_append, List.nil_append, reduceIte, Nat.reduceAdd, Nat.reduceSub, Nat.reduceEqDiff, true_and, and_true, Nat.reduceLeDiff, Nat.lt_irrefl, Nat.succ_ne_self, forall_const, ne_eq, not_true_eq_false, not_false_eq_true, false_implies, implies_true, true_implies, true_or, or_true, or_false, false_or, eq_self, Int.reduceEq, Int.reduceLT, Int.reduceLE, Int.reduceNeg, Int.reduceToNat, Int.reduceAdd, Int.reduceSub, Int.reduceMul, Int.reduceNe, and_self]
  refine ok_DI_draw (by decide) ?_
  rw [hx]
  simp only [c_ic, c_lc, c_nul, c_il, c_ll, c_al, c_is, c_ls, c_as, c_inc, c_b2, c_b2n, c_b1, c_d2, c_d2n, c_dsh, c_i2l, c_l2i, c_lcm, c_dup, c_dup2, c_pop, c_j1, c_j2, c_jn, c_sw0, c_sw, c_gI, c_gL, c_gR, c_gS, c_pI, c_pZ, c_pL, c_pR, c_iald, c_ialg, c_iast, c_iasg, c_bald, c_bast, c_lald, c_last, c_aald, c_aals, c_aast, c_alen, c_bnd, c_str, c_bndl, c_bnln, c_sval, c_scod, c_sbal, c_sbln, c_fmt, c_stop, c_iret, c_zret, c_nret, c_aret, c_vret, c_lret, c_cpy, c_callV, c_callS, tkA, lget, lput, lkill, jpush, vsz, jcat, lins, lent, List.length_cons, List.length_nil, List.replicate, List.append_nil, List.cons_append, List.nil_append, reduceIte, Nat.reduceAdd, Nat.reduceSub, Nat.reduceEqDiff, true_and, and_true, Nat.reduceLeDiff, Nat.lt_irrefl, Nat.succ_ne_self, forall_const, ne_eq, not_true_eq_false, not_false_eq_true, false_implies, implies_true, true_implies, true_or, or_true, or_false, false_or, eq_self, Int.reduceEq, Int.reduceLT, Int.reduceLE, Int.reduceNeg, Int.reduceToNat, Int.reduceAdd, Int.reduceSub, Int.reduceMul, Int.reduceNe, and_self, g_sI, g_sI2, g_sL1, g_sL, g_sL2, g_sR1, g_sR2, g_sR, g_sA, g_sA2, and_false, false_and, and_self, if_false, if_true, hg, hR.1, hR.2.2.2.1]
  have t1 : Fr SDr σ (sL σ 2 0 0 (dn x)) := Fr.rf.sL (Or.inr ⟨rfl, rfl⟩)
  refine ⟨fun z => ?_, fun z => ?_⟩
  · refine second _ _ t1 ?_ ?_
    · unfold yd1; rw [if_neg (by omega)]; simp only [g_sL, and_self, if_true]
    · unfold yd1; rw [if_neg (by omega)]
      exact hC.fr (S := fun k _ _ => k = 2) (Fr.rf.sL rfl) (fun k o q w => by omega)
  · refine ok_DI_draw (by omega) ?_
    simp only [c_ic, c_lc, c_nul, c_il, c_ll, c_al, c_is, c_ls, c_as, c_inc, c_b2, c_b2n, c_b1, c_d2, c_d2n, c_dsh, c_i2l, c_l2i, c_lcm, c_dup, c_dup2, c_pop, c_j1, c_j2, c_jn, c_sw0, c_sw, c_gI, c_gL, c_gR, c_gS, c_pI, c_pZ, c_pL, c_pR, c_iald, c_ialg, c_iast, c_iasg, c_bald, c_bast, c_lald, c_last, c_aald, c_aals, c_aast, c_alen, c_bnd, c_str, c_bndl, c_bnln, c_sval, c_scod, c_sbal, c_sbln, c_fmt, c_stop, c_iret, c_zret, c_nret, c_aret, c_vret, c_lret, c_cpy, c_callV, c_callS, tkA, lget, lput, lkill, jpush, vsz, jcat, lins, lent, List.length_cons, List.length_nil, List.replicate, List.append_nil, List.cons_append, List.nil_append, reduceIte, Nat.reduceAdd, Nat.reduceSub, Nat.reduceEqDiff, true_and, and_true, Nat.reduceLeDiff, Nat.lt_irrefl, Nat.succ_ne_self, forall_const, ne_eq, not_true_eq_false, not_false_eq_true, false_implies, implies_true, true_implies, true_or, or_true, or_false, false_or, eq_self, Int.reduceEq, Int.reduceLT, Int.reduceLE, Int.reduceNeg, Int.reduceToNat, Int.reduceAdd, Int.reduceSub, Int.reduceMul, Int.reduceNe, and_self, g_sI, g_sI2, g_sL1, g_sL, g_sL2, g_sR1, g_sR2, g_sR, g_sA, g_sA2, and_false, false_and, and_self, if_false, if_true]
    have ht := dv_in (dn (dn x)) (m := K) (by omega) (by omega)
    have h2 : JR (sL (sL σ 2 0 0 (dn x)) 2 0 0 (dn (dn x))) K F r := hR.fr (S := fun k _ _ => k = 2) ((Fr.rf.sL rfl).sL rfl) (fun k j o q w => by unfold fR at q; omega)
    have t3' : CW (sL (sL σ 2 0 0 (dn x)) 2 0 0 (dn (dn x))) 0 K W := hC.fr (S := fun k _ _ => k = 2) ((Fr.rf.sL rfl).sL rfl) (fun k o q w => by omega)
    have t1' : Fr SDr σ (sL (sL σ 2 0 0 (dn x)) 2 0 0 (dn (dn x))) := t1.sL (Or.inr ⟨rfl, rfl⟩)
    refine ok_LB_isKingdom h2 ?_
    rw [if_pos ht]
    obtain ⟨t, htt⟩ := Int.eq_ofNat_of_zero_le ht.1
    have m5 := (t3'.2.1 t (by omega)).2.1
    have hb := bt_in (W 16) t
    have x16 := pow_16 K4 hW.2.2.1
    have ey : yd1 ig K x W = (dn (dn x), up W 16 (jxor (W 16) (jshl 1 t))) := by unfold yd1; rw [if_pos (by omega), htt]
    rw [htt] at ht ⊢
    simp only [c_ic, c_lc, c_nul, c_il, c_ll, c_al, c_is, c_ls, c_as, c_inc, c_b2, c_b2n, c_b1, c_d2, c_d2n, c_dsh, c_i2l, c_l2i, c_lcm, c_dup, c_dup2, c_pop, c_j1, c_j2, c_jn, c_sw0, c_sw, c_gI, c_gL, c_gR, c_gS, c_pI, c_pZ, c_pL, c_pR, c_iald, c_ialg, c_iast, c_iasg, c_bald, c_bast, c_lald, c_last, c_aald, c_aals, c_aast, c_alen, c_bnd, c_str, c_bndl, c_bnln, c_sval, c_scod, c_sbal, c_sbln, c_fmt, c_stop, c_iret, c_zret, c_nret, c_aret, c_vret, c_lret, c_cpy, c_callV, c_callS, tkA, lget, lput, lkill, jpush, vsz, jcat, lins, lent, List.length_cons, List.length_nil, List.replicate, List.append_nil, List.cons_append, List.nil_append, reduceIte, Nat.reduceAdd, Nat.reduceSub, Nat.reduceEqDiff, true_and, and_true, Nat.reduceLeDiff, Nat.lt_irrefl, Nat.succ_ne_self, forall_const, ne_eq, not_true_eq_false, not_false_eq_true, false_implies, implies_true, true_implies, true_or, or_true, or_false, false_or, eq_self, Int.reduceEq, Int.reduceLT, Int.reduceLE, Int.reduceNeg, Int.reduceToNat, Int.reduceAdd, Int.reduceSub, Int.reduceMul, Int.reduceNe, and_self, Int.toNat_natCast, m5]
    rw [wr_id (by omega) (by omega)]
    refine ⟨⟨by omega, by omega⟩, ⟨by omega, by omega⟩, ?_⟩
    refine second _ _ (t1'.sI (Or.inl (SWi (by decide)))) ?_ ?_
    · rw [ey]; simp only [g_sI2, g_sL, and_self, if_true]
    · rw [ey]; exact t3'.hold x16 (by omega) K4
