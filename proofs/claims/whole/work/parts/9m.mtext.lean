/-! ===== 9m text: the model ===== -/
section MT
variable {σ : jM} {Φ : jPh} {d n : Nat} {T : Nat → Int}
def Su : jS := fun k j o => Sh k j o ∨ Stx k j o ∨ (k = 10 ∧ j = 0 ∧ o = 6)
/-- the model behind a realm -/
def Mnd (τ : jM) (s : RS) : Prop := τ.1 10 0 6 = 0 ∧ τ.1 10 0 26 = s.2.1 ∧ τ.1 10 0 27 = s.2.2.1 ∧ τ.1 10 0 39 = 0 ∧ τ.1 10 0 44 = 0 ∧ τ.1 10 0 47 = 0 ∧ (∀ o, o < 2 → τ.1 63 0 o = s.2.2.2.1 o) ∧ (∀ o, o < 4 * s.2.2.1 → τ.1 66 0 o = s.2.2.2.2.2 o) ∧ ∀ p, p < 291 → τ.1 69 0 p = W0 s.2.1 s.2.2.2.2.1 (s.2.2.2.1 1) p
theorem W0_c {K : Nat} {kr kr' : Nat → Int} {c : Int} (hk : ∀ o, o < 3 * K → kr o = kr' o) (p : Nat) : W0 K kr c p = W0 K kr' c p := by
  unfold W0
  by_cases y : p < 4 * K ∧ p % 4 < 3
  · rw [if_pos y, if_pos y]; exact hk _ (by omega)
  · rw [if_neg y, if_neg y]
theorem ok_MO_text0 (hm : TM σ n T) (h : ReP (fun _ => ∀ τ, Fr Sh σ τ → Φ (some (.inl (-1))) τ) (fun s => ∀ τ, Fr Su σ τ → Mnd τ s → Φ (some (.inl s.2.1)) τ) (pRealm T n)) : Ct (d + 12) M_MO_text [rf 10 0, .inl 0] σ Φ := by
  refine i_MO_text (Nat.le_add_right 2 3) (fun At h71 h137 h223 h248 h274 h300 h322 h333 => ?_)
  have t0 : Fr Sh σ (sI σ 10 0 0 0) := Fr.rf.sI (by unfold Sh; omega)
  have hm0 : TM (sI σ 10 0 0 0) n T := ⟨hm.1.fr t0 (fun o w => by unfold Sh at w; omega), hm.2⟩
  simp only [w_MO_text_0, w_MO_text_30, w_MO_text_43, c_ic, c_lc, c_nul, c_il, c_ll, c_al, c_is, c_ls, c_as, c_inc, c_b2, c_b2n, c_b1, c_d2, c_d2n, c_dsh, c_i2l, c_l2i, c_lcm, c_dup, c_dup2, c_pop, c_j1, c_j2, c_jn, c_sw0, c_sw, c_gI, c_gL, c_gR, c_gS, c_pI, c_pZ, c_pL, c_pR, c_iald, c_ialg, c_iast, c_iasg, c_bald, c_bast, c_lald, c_last, c_aald, c_aals, c_aast, c_alen, c_bnd, c_str, c_bndl, c_bnln, c_sval, c_scod, c_sbal, c_sbln, c_fmt, c_stop, c_iret, c_zret, c_nret, c_aret, c_vret, c_lret, c_cpy, c_callV, c_callS, tkA, lget, lput, lkill, jpush, vsz, jcat, lins, lent, List.length_cons, List.length_nil, List.replicate, List.append_nil, List.cons_append, List.nil_append, reduceIte, Nat.reduceAdd, Nat.reduceSub, Nat.reduceEqDiff, true_and, and_true, Nat.reduceLeDiff, Nat.lt_irrefl, Nat.succ_ne_self, forall_const, ne_eq, not_true_eq_false, not_false_eq_true, false_implies, implies_true, true_implies, true_or, or_true, or_false, false_or, eq_self, Int.reduceEq, Int.reduceLT, Int.reduceLE, Int.reduceNeg, Int.reduceToNat, Int.reduceAdd, Int.reduceSub, Int.reduceMul, Int.reduceNe, and_self]
  refine ok_MO_isIn ?_
  simp only [c_ic, c_lc, c_nul, c_il, c_ll, c_al, c_is, c_ls, c_as, c_inc, c_b2, c_b2n, c_b1, c_d2, c_d2n, c_dsh, c_i2l, c_l2i, c_lcm, c_dup, c_dup2, c_pop, c_j1, c_j2, c_jn, c_sw0, c_sw, c_gI, c_gL, c_gR, c_gS, c_pI, c_pZ, c_pL, c_pR, c_iald, c_ialg, c_iast, c_iasg, c_bald, c_bast, c_lald, c_last, c_aald, c_aals, c_aast, c_alen, c_bnd, c_str, c_bndl, c_bnln, c_sval, c_scod, c_sbal, c_sbln, c_fmt, c_stop, c_iret, c_zret, c_nret, c_aret, c_vret, c_lret, c_cpy, c_callV, c_callS, tkA, lget, lput, lkill, jpush, vsz, jcat, lins, lent, List.length_cons, List.length_nil, List.replicate, List.append_nil, List.cons_append, List.nil_append, reduceIte, Nat.reduceAdd, Nat.reduceSub, Nat.reduceEqDiff, true_and, and_true, Nat.reduceLeDiff, Nat.lt_irrefl, Nat.succ_ne_self, forall_const, ne_eq, not_true_eq_false, not_false_eq_true, false_implies, implies_true, true_implies, true_or, or_true, or_false, false_or, eq_self, Int.reduceEq, Int.reduceLT, Int.reduceLE, Int.reduceNeg, Int.reduceToNat, Int.reduceAdd, Int.reduceSub, Int.reduceMul, Int.reduceNe, and_self]
  refine ok_MO_fault0 hm0 ?_
  cases hq : pRealm T n with
  | inl p =>
    rw [hq] at h
    intro τ t1
    simp only [w_MO_text_52, c_ic, c_lc, c_nul, c_il, c_ll, c_al, c_is, c_ls, c_as, c_inc, c_b2, c_b2n, c_b1, c_d2, c_d2n, c_dsh, c_i2l, c_l2i, c_lcm, c_dup, c_dup2, c_pop, c_j1, c_j2, c_jn, c_sw0, c_sw, c_gI, c_gL, c_gR, c_gS, c_pI, c_pZ, c_pL, c_pR, c_iald, c_ialg, c_iast, c_iasg, c_bald, c_bast, c_lald, c_last, c_aald, c_aals, c_aast, c_alen, c_bnd, c_str, c_bndl, c_bnln, c_sval, c_scod, c_sbal, c_sbln, c_fmt, c_stop, c_iret, c_zret, c_nret, c_aret, c_vret, c_lret, c_cpy, c_callV, c_callS, tkA, lget, lput, lkill, jpush, vsz, jcat, lins, lent, List.length_cons, List.length_nil, List.replicate, List.append_nil, List.cons_append, List.nil_append, reduceIte, Nat.reduceAdd, Nat.reduceSub, Nat.reduceEqDiff, true_and, and_true, Nat.reduceLeDiff, Nat.lt_irrefl, Nat.succ_ne_self, forall_const, ne_eq, not_true_eq_false, not_false_eq_true, false_implies, implies_true, true_implies, true_or, or_true, or_false, false_or, eq_self, Int.reduceEq, Int.reduceLT, Int.reduceLE, Int.reduceNeg, Int.reduceToNat, Int.reduceAdd, Int.reduceSub, Int.reduceMul, Int.reduceNe, and_self]
    refine ⟨fun w => absurd w (by omega), fun _ => h τ (t0.tr t1)⟩
  | inr s =>
    rw [hq] at h
    intro τ t1 rm
    obtain ⟨m1, m2, m3, m4, m5, m6, m7, m8, m9⟩ := rm
    have c6 : τ.1 10 0 6 = n := by rw [t1.i (by unfold Sh; omega)]; exact hm.2
    simp only [w_MO_text_54, w_MO_text_130, c_ic, c_lc, c_nul, c_il, c_ll, c_al, c_is, c_ls, c_as, c_inc, c_b2, c_b2n, c_b1, c_d2, c_d2n, c_dsh, c_i2l, c_l2i, c_lcm, c_dup, c_dup2, c_pop, c_j1, c_j2, c_jn, c_sw0, c_sw, c_gI, c_gL, c_gR, c_gS, c_pI, c_pZ, c_pL, c_pR, c_iald, c_ialg, c_iast, c_iasg, c_bald, c_bast, c_lald, c_last, c_aald, c_aals, c_aast, c_alen, c_bnd, c_str, c_bndl, c_bnln, c_sval, c_scod, c_sbal, c_sbln, c_fmt, c_stop, c_iret, c_zret, c_nret, c_aret, c_vret, c_lret, c_cpy, c_callV, c_callS, tkA, lget, lput, lkill, jpush, vsz, jcat, lins, lent, List.length_cons, List.length_nil, List.replicate, List.append_nil, List.cons_append, List.nil_append, reduceIte, Nat.reduceAdd, Nat.reduceSub, Nat.reduceEqDiff, true_and, and_true, Nat.reduceLeDiff, Nat.lt_irrefl, Nat.succ_ne_self, forall_const, ne_eq, not_true_eq_false, not_false_eq_true, false_implies, implies_true, true_implies, true_or, or_true, or_false, false_or, eq_self, Int.reduceEq, Int.reduceLT, Int.reduceLE, Int.reduceNeg, Int.reduceToNat, Int.reduceAdd, Int.reduceSub, Int.reduceMul, Int.reduceNe, and_self, c6]
    refine tx0 (σ := sI τ 10 0 6 0) (K := s.2.1) (F := s.2.2.1) m3 m4 m1 m2 (fun υ u1 u2 u3 u4 u5 u6 u7 u8 u9 u10 => ?_) h223 h248 h274 h300 h322 h333
    refine h υ ?_ ⟨?_, u2, u3, u4, u5, u6, fun o ho => ?_, fun o ho => ?_, fun p hp => ?_⟩
    · have a1 : Fr Su σ τ := (t0.tr t1).wk (fun k j o q => Or.inl q)
      have a2 : Fr Su σ (sI τ 10 0 6 0) := a1.sI (Or.inr (Or.inr ⟨rfl, rfl, rfl⟩))
      have a3 : Fr Su (sI τ 10 0 6 0) υ := u1.wk (fun k j o q => Or.inr (Or.inl q))
      exact a2.tr a3
    · rw [u1.i (by unfold Stx; omega)]; rfl
    · rw [u7 o ho]
      rcases (show o = 0 ∨ o = 1 by omega) with rfl | rfl
      · exact m6
      · exact m7
    · rw [u9 o (by omega)]; exact m9 o ho
    · rw [u10 p hp]
      have e : (sI τ 10 0 6 0).1 64 0 1 = s.2.2.2.1 1 := m7
      rw [e]
      exact W0_c (fun o ho => m8 o ho) p
def Sv (N : Nat) : jS := fun k j o => Sh k j o ∨ Sty N k j o
theorem ok_MO_text1 {N : Nat} {CL : Nat → List Int} (hm : TM σ n T) (hM : MI σ N CL) (h7 : σ.1 10 0 7 = N) (h4 : N = 4 → ∀ τ, Fr Sh σ τ → Φ (some (.inl (-1))) τ) (h : N < 4 → match pLaw T n with | .inl _ => ∀ τ, Fr Sh σ τ → Φ (some (.inl (-1))) τ | .inr q => LOK q.2 → ∀ τ, Fr (Sv N) σ τ → τ.1 10 0 6 = 0 → τ.1 10 0 7 = ((N + 1 : Nat) : Int) → τ.1 61 0 N = n → TX τ 1 (240 * N) n T → Φ (some (.inl N)) τ) : Ct (d + 35) M_MO_text [rf 10 0, .inl 1] σ Φ := by
  refine i_MO_text (Nat.le_add_right 2 3) (fun At h71 h137 h223 h248 h274 h300 h322 h333 => ?_)
  have N4 := hM.1.1
  have t0 : Fr Sh σ (sI σ 10 0 0 0) := Fr.rf.sI (by unfold Sh; omega)
  have hm0 : TM (sI σ 10 0 0 0) n T := ⟨hm.1.fr t0 (fun o w => by unfold Sh at w; omega), hm.2⟩
  have hM0 : MI (sI σ 10 0 0 0) N CL := hM.fr (Fr.rf.sI (S := fun k j o => k = 10) rfl) (fun k j o q w => by unfold fM at q; omega)
  have c7 : (sI σ 10 0 0 0).1 10 0 7 = N := h7
  simp only [w_MO_text_0, w_MO_text_30, w_MO_text_43, c_ic, c_lc, c_nul, c_il, c_ll, c_al, c_is, c_ls, c_as, c_inc, c_b2, c_b2n, c_b1, c_d2, c_d2n, c_dsh, c_i2l, c_l2i, c_lcm, c_dup, c_dup2, c_pop, c_j1, c_j2, c_jn, c_sw0, c_sw, c_gI, c_gL, c_gR, c_gS, c_pI, c_pZ, c_pL, c_pR, c_iald, c_ialg, c_iast, c_iasg, c_bald, c_bast, c_lald, c_last, c_aald, c_aals, c_aast, c_alen, c_bnd, c_str, c_bndl, c_bnln, c_sval, c_scod, c_sbal, c_sbln, c_fmt, c_stop, c_iret, c_zret, c_nret, c_aret, c_vret, c_lret, c_cpy, c_callV, c_callS, tkA, lget, lput, lkill, jpush, vsz, jcat, lins, lent, List.length_cons, List.length_nil, List.replicate, List.append_nil, List.cons_append, List.nil_append, reduceIte, Nat.reduceAdd, Nat.reduceSub, Nat.reduceEqDiff, true_and, and_true, Nat.reduceLeDiff, Nat.lt_irrefl, Nat.succ_ne_self, forall_const, ne_eq, not_true_eq_false, not_false_eq_true, false_implies, implies_true, true_implies, true_or, or_true, or_false, false_or, eq_self, Int.reduceEq, Int.reduceLT, Int.reduceLE, Int.reduceNeg, Int.reduceToNat, Int.reduceAdd, Int.reduceSub, Int.reduceMul, Int.reduceNe, and_self]
  refine ok_MO_isIn ?_
  simp only [c_ic, c_lc, c_nul, c_il, c_ll, c_al, c_is, c_ls, c_as, c_inc, c_b2, c_b2n, c_b1, c_d2, c_d2n, c_dsh, c_i2l, c_l2i, c_lcm, c_dup, c_dup2, c_pop, c_j1, c_j2, c_jn, c_sw0, c_sw, c_gI, c_gL, c_gR, c_gS, c_pI, c_pZ, c_pL, c_pR, c_iald, c_ialg, c_iast, c_iasg, c_bald, c_bast, c_lald, c_last, c_aald, c_aals, c_aast, c_alen, c_bnd, c_str, c_bndl, c_bnln, c_sval, c_scod, c_sbal, c_sbln, c_fmt, c_stop, c_iret, c_zret, c_nret, c_aret, c_vret, c_lret, c_cpy, c_callV, c_callS, tkA, lget, lput, lkill, jpush, vsz, jcat, lins, lent, List.length_cons, List.length_nil, List.replicate, List.append_nil, List.cons_append, List.nil_append, reduceIte, Nat.reduceAdd, Nat.reduceSub, Nat.reduceEqDiff, true_and, and_true, Nat.reduceLeDiff, Nat.lt_irrefl, Nat.succ_ne_self, forall_const, ne_eq, not_true_eq_false, not_false_eq_true, false_implies, implies_true, true_implies, true_or, or_true, or_false, false_or, eq_self, Int.reduceEq, Int.reduceLT, Int.reduceLE, Int.reduceNeg, Int.reduceToNat, Int.reduceAdd, Int.reduceSub, Int.reduceMul, Int.reduceNe, and_self, c7]
  refine ⟨fun w => ?_, fun w => ?_⟩
  · simp only [w_MO_text_52, c_ic, c_lc, c_nul, c_il, c_ll, c_al, c_is, c_ls, c_as, c_inc, c_b2, c_b2n, c_b1, c_d2, c_d2n, c_dsh, c_i2l, c_l2i, c_lcm, c_dup, c_dup2, c_pop, c_j1, c_j2, c_jn, c_sw0, c_sw, c_gI, c_gL, c_gR, c_gS, c_pI, c_pZ, c_pL, c_pR, c_iald, c_ialg, c_iast, c_iasg, c_bald, c_bast, c_lald, c_last, c_aald, c_aals, c_aast, c_alen, c_bnd, c_str, c_bndl, c_bnln, c_sval, c_scod, c_sbal, c_sbln, c_fmt, c_stop, c_iret, c_zret, c_nret, c_aret, c_vret, c_lret, c_cpy, c_callV, c_callS, tkA, lget, lput, lkill, jpush, vsz, jcat, lins, lent, List.length_cons, List.length_nil, List.replicate, List.append_nil, List.cons_append, List.nil_append, reduceIte, Nat.reduceAdd, Nat.reduceSub, Nat.reduceEqDiff, true_and, and_true, Nat.reduceLeDiff, Nat.lt_irrefl, Nat.succ_ne_self, forall_const, ne_eq, not_true_eq_false, not_false_eq_true, false_implies, implies_true, true_implies, true_or, or_true, or_false, false_or, eq_self, Int.reduceEq, Int.reduceLT, Int.reduceLE, Int.reduceNeg, Int.reduceToNat, Int.reduceAdd, Int.reduceSub, Int.reduceMul, Int.reduceNe, and_self]
    exact h4 (by omega) _ t0
  have h := h (by omega)
  refine ok_MO_fault1 hm0 hM0 ?_
  cases hq : pLaw T n with
  | inl p =>
    rw [hq] at h
    intro τ t1
    simp only [w_MO_text_52, c_ic, c_lc, c_nul, c_il, c_ll, c_al, c_is, c_ls, c_as, c_inc, c_b2, c_b2n, c_b1, c_d2, c_d2n, c_dsh, c_i2l, c_l2i, c_lcm, c_dup, c_dup2, c_pop, c_j1, c_j2, c_jn, c_sw0, c_sw, c_gI, c_gL, c_gR, c_gS, c_pI, c_pZ, c_pL, c_pR, c_iald, c_ialg, c_iast, c_iasg, c_bald, c_bast, c_lald, c_last, c_aald, c_aals, c_aast, c_alen, c_bnd, c_str, c_bndl, c_bnln, c_sval, c_scod, c_sbal, c_sbln, c_fmt, c_stop, c_iret, c_zret, c_nret, c_aret, c_vret, c_lret, c_cpy, c_callV, c_callS, tkA, lget, lput, lkill, jpush, vsz, jcat, lins, lent, List.length_cons, List.length_nil, List.replicate, List.append_nil, List.cons_append, List.nil_append, reduceIte, Nat.reduceAdd, Nat.reduceSub, Nat.reduceEqDiff, true_and, and_true, Nat.reduceLeDiff, Nat.lt_irrefl, Nat.succ_ne_self, forall_const, ne_eq, not_true_eq_false, not_false_eq_true, false_implies, implies_true, true_implies, true_or, or_true, or_false, false_or, eq_self, Int.reduceEq, Int.reduceLT, Int.reduceLE, Int.reduceNeg, Int.reduceToNat, Int.reduceAdd, Int.reduceSub, Int.reduceMul, Int.reduceNe, and_self]
    refine ⟨fun w => absurd w (by omega), fun _ => h τ (t0.tr t1)⟩
  | inr q =>
    rw [hq] at h
    intro hl τ t1
    have c6 : τ.1 10 0 6 = n := by rw [t1.i (by unfold Sh; omega)]; exact hm.2
    have c7 : τ.1 10 0 7 = N := by rw [t1.i (by unfold Sh; omega)]; exact h7
    simp only [c_ic, c_lc, c_nul, c_il, c_ll, c_al, c_is, c_ls, c_as, c_inc, c_b2, c_b2n, c_b1, c_d2, c_d2n, c_dsh, c_i2l, c_l2i, c_lcm, c_dup, c_dup2, c_pop, c_j1, c_j2, c_jn, c_sw0, c_sw, c_gI, c_gL, c_gR, c_gS, c_pI, c_pZ, c_pL, c_pR, c_iald, c_ialg, c_iast, c_iasg, c_bald, c_bast, c_lald, c_last, c_aald, c_aals, c_aast, c_alen, c_bnd, c_str, c_bndl, c_bnln, c_sval, c_scod, c_sbal, c_sbln, c_fmt, c_stop, c_iret, c_zret, c_nret, c_aret, c_vret, c_lret, c_cpy, c_callV, c_callS, tkA, lget, lput, lkill, jpush, vsz, jcat, lins, lent, List.length_cons, List.length_nil, List.replicate, List.append_nil, List.cons_append, List.nil_append, reduceIte, Nat.reduceAdd, Nat.reduceSub, Nat.reduceEqDiff, true_and, and_true, Nat.reduceLeDiff, Nat.lt_irrefl, Nat.succ_ne_self, forall_const, ne_eq, not_true_eq_false, not_false_eq_true, false_implies, implies_true, true_implies, true_or, or_true, or_false, false_or, eq_self, Int.reduceEq, Int.reduceLT, Int.reduceLE, Int.reduceNeg, Int.reduceToNat, Int.reduceAdd, Int.reduceSub, Int.reduceMul, Int.reduceNe, and_self]
    refine tx1 (hm0.1.fr t1 (fun o w => by unfold Sh at w; omega)) c6 c7 (by omega) (fun υ u1 u2 u3 u4 u5 => ?_) h71
    have a1 : Fr (Sv N) σ τ := (t0.tr t1).wk (fun k j o q => Or.inl q)
    have a2 : Fr (Sv N) τ υ := u1.wk (fun k j o q => Or.inr q)
    exact h hl υ (a1.tr a2) u2 u3 u4 u5
def Sw' (P : Nat) : jS := fun k j o => Sh k j o ∨ Stz P k j o
theorem ok_MO_text2 {P : Nat} (hm : TM σ n T) (hP : P ≤ 4) (h30 : σ.1 10 0 30 = P) (h4 : P = 4 → ∀ τ, Fr Sh σ τ → Φ (some (.inl (-1))) τ) (h : P < 4 → PlP (fun _ => ∀ τ, Fr Sh σ τ → Φ (some (.inl (-1))) τ) (fun l => ∀ τ, Fr (Sw' P) σ τ → τ.1 10 0 6 = 0 → τ.1 10 0 30 = ((P + 1 : Nat) : Int) → l.length ≤ 16 → τ.1 68 0 P = l.length → (∀ i, i < l.length → τ.1 67 0 (32 * P + 2 * i) = (l.getD i (0, 0)).1 ∧ τ.1 67 0 (32 * P + 2 * i + 1) = (l.getD i (0, 0)).2) → Φ (some (.inl P)) τ) (pPlan T n)) : Ct (d + 10) M_MO_text [rf 10 0, .inl 2] σ Φ := by
  refine i_MO_text (Nat.le_add_right 2 3) (fun At h71 h137 h223 h248 h274 h300 h322 h333 => ?_)
  have t0 : Fr Sh σ (sI σ 10 0 0 0) := Fr.rf.sI (by unfold Sh; omega)
  have hm0 : TM (sI σ 10 0 0 0) n T := ⟨hm.1.fr t0 (fun o w => by unfold Sh at w; omega), hm.2⟩
  have c30 : (sI σ 10 0 0 0).1 10 0 30 = P := h30
  simp only [w_MO_text_0, w_MO_text_30, w_MO_text_43, c_ic, c_lc, c_nul, c_il, c_ll, c_al, c_is, c_ls, c_as, c_inc, c_b2, c_b2n, c_b1, c_d2, c_d2n, c_dsh, c_i2l, c_l2i, c_lcm, c_dup, c_dup2, c_pop, c_j1, c_j2, c_jn, c_sw0, c_sw, c_gI, c_gL, c_gR, c_gS, c_pI, c_pZ, c_pL, c_pR, c_iald, c_ialg, c_iast, c_iasg, c_bald, c_bast, c_lald, c_last, c_aald, c_aals, c_aast, c_alen, c_bnd, c_str, c_bndl, c_bnln, c_sval, c_scod, c_sbal, c_sbln, c_fmt, c_stop, c_iret, c_zret, c_nret, c_aret, c_vret, c_lret, c_cpy, c_callV, c_callS, tkA, lget, lput, lkill, jpush, vsz, jcat, lins, lent, List.length_cons, List.length_nil, List.replicate, List.append_nil, List.cons_append, List.nil_append, reduceIte, Nat.reduceAdd, Nat.reduceSub, Nat.reduceEqDiff, true_and, and_true, Nat.reduceLeDiff, Nat.lt_irrefl, Nat.succ_ne_self, forall_const, ne_eq, not_true_eq_false, not_false_eq_true, false_implies, implies_true, true_implies, true_or, or_true, or_false, false_or, eq_self, Int.reduceEq, Int.reduceLT, Int.reduceLE, Int.reduceNeg, Int.reduceToNat, Int.reduceAdd, Int.reduceSub, Int.reduceMul, Int.reduceNe, and_self]
  refine ok_MO_isIn ?_
  simp only [c_ic, c_lc, c_nul, c_il, c_ll, c_al, c_is, c_ls, c_as, c_inc, c_b2, c_b2n, c_b1, c_d2, c_d2n, c_dsh, c_i2l, c_l2i, c_lcm, c_dup, c_dup2, c_pop, c_j1, c_j2, c_jn, c_sw0, c_sw, c_gI, c_gL, c_gR, c_gS, c_pI, c_pZ, c_pL, c_pR, c_iald, c_ialg, c_iast, c_iasg, c_bald, c_bast, c_lald, c_last, c_aald, c_aals, c_aast, c_alen, c_bnd, c_str, c_bndl, c_bnln, c_sval, c_scod, c_sbal, c_sbln, c_fmt, c_stop, c_iret, c_zret, c_nret, c_aret, c_vret, c_lret, c_cpy, c_callV, c_callS, tkA, lget, lput, lkill, jpush, vsz, jcat, lins, lent, List.length_cons, List.length_nil, List.replicate, List.append_nil, List.cons_append, List.nil_append, reduceIte, Nat.reduceAdd, Nat.reduceSub, Nat.reduceEqDiff, true_and, and_true, Nat.reduceLeDiff, Nat.lt_irrefl, Nat.succ_ne_self, forall_const, ne_eq, not_true_eq_false, not_false_eq_true, false_implies, implies_true, true_implies, true_or, or_true, or_false, false_or, eq_self, Int.reduceEq, Int.reduceLT, Int.reduceLE, Int.reduceNeg, Int.reduceToNat, Int.reduceAdd, Int.reduceSub, Int.reduceMul, Int.reduceNe, and_self, c30]
  refine ⟨fun w => ?_, fun w => ?_⟩
  · simp only [w_MO_text_52, c_ic, c_lc, c_nul, c_il, c_ll, c_al, c_is, c_ls, c_as, c_inc, c_b2, c_b2n, c_b1, c_d2, c_d2n, c_dsh, c_i2l, c_l2i, c_lcm, c_dup, c_dup2, c_pop, c_j1, c_j2, c_jn, c_sw0, c_sw, c_gI, c_gL, c_gR, c_gS, c_pI, c_pZ, c_pL, c_pR, c_iald, c_ialg, c_iast, c_iasg, c_bald, c_bast, c_lald, c_last, c_aald, c_aals, c_aast, c_alen, c_bnd, c_str, c_bndl, c_bnln, c_sval, c_scod, c_sbal, c_sbln, c_fmt, c_stop, c_iret, c_zret, c_nret, c_aret, c_vret, c_lret, c_cpy, c_callV, c_callS, tkA, lget, lput, lkill, jpush, vsz, jcat, lins, lent, List.length_cons, List.length_nil, List.replicate, List.append_nil, List.cons_append, List.nil_append, reduceIte, Nat.reduceAdd, Nat.reduceSub, Nat.reduceEqDiff, true_and, and_true, Nat.reduceLeDiff, Nat.lt_irrefl, Nat.succ_ne_self, forall_const, ne_eq, not_true_eq_false, not_false_eq_true, false_implies, implies_true, true_implies, true_or, or_true, or_false, false_or, eq_self, Int.reduceEq, Int.reduceLT, Int.reduceLE, Int.reduceNeg, Int.reduceToNat, Int.reduceAdd, Int.reduceSub, Int.reduceMul, Int.reduceNe, and_self]
    exact h4 (by omega) _ t0
  have h := h (by omega)
  refine ok_MO_fault2 hm0 ?_
  cases hq : pPlan T n with
  | inl p =>
    rw [hq] at h
    intro τ t1
    simp only [w_MO_text_52, c_ic, c_lc, c_nul, c_il, c_ll, c_al, c_is, c_ls, c_as, c_inc, c_b2, c_b2n, c_b1, c_d2, c_d2n, c_dsh, c_i2l, c_l2i, c_lcm, c_dup, c_dup2, c_pop, c_j1, c_j2, c_jn, c_sw0, c_sw, c_gI, c_gL, c_gR, c_gS, c_pI, c_pZ, c_pL, c_pR, c_iald, c_ialg, c_iast, c_iasg, c_bald, c_bast, c_lald, c_last, c_aald, c_aals, c_aast, c_alen, c_bnd, c_str, c_bndl, c_bnln, c_sval, c_scod, c_sbal, c_sbln, c_fmt, c_stop, c_iret, c_zret, c_nret, c_aret, c_vret, c_lret, c_cpy, c_callV, c_callS, tkA, lget, lput, lkill, jpush, vsz, jcat, lins, lent, List.length_cons, List.length_nil, List.replicate, List.append_nil, List.cons_append, List.nil_append, reduceIte, Nat.reduceAdd, Nat.reduceSub, Nat.reduceEqDiff, true_and, and_true, Nat.reduceLeDiff, Nat.lt_irrefl, Nat.succ_ne_self, forall_const, ne_eq, not_true_eq_false, not_false_eq_true, false_implies, implies_true, true_implies, true_or, or_true, or_false, false_or, eq_self, Int.reduceEq, Int.reduceLT, Int.reduceLE, Int.reduceNeg, Int.reduceToNat, Int.reduceAdd, Int.reduceSub, Int.reduceMul, Int.reduceNe, and_self]
    refine ⟨fun w => absurd w (by omega), fun _ => h τ (t0.tr t1)⟩
  | inr l =>
    rw [hq] at h
    intro τ t1 l16 pm c68
    have c6 : τ.1 10 0 6 = n := by rw [t1.i (by unfold Sh; omega)]; exact hm.2
    have c30 : τ.1 10 0 30 = P := by rw [t1.i (by unfold Sh; omega)]; exact h30
    simp only [c_ic, c_lc, c_nul, c_il, c_ll, c_al, c_is, c_ls, c_as, c_inc, c_b2, c_b2n, c_b1, c_d2, c_d2n, c_dsh, c_i2l, c_l2i, c_lcm, c_dup, c_dup2, c_pop, c_j1, c_j2, c_jn, c_sw0, c_sw, c_gI, c_gL, c_gR, c_gS, c_pI, c_pZ, c_pL, c_pR, c_iald, c_ialg, c_iast, c_iasg, c_bald, c_bast, c_lald, c_last, c_aald, c_aals, c_aast, c_alen, c_bnd, c_str, c_bndl, c_bnln, c_sval, c_scod, c_sbal, c_sbln, c_fmt, c_stop, c_iret, c_zret, c_nret, c_aret, c_vret, c_lret, c_cpy, c_callV, c_callS, tkA, lget, lput, lkill, jpush, vsz, jcat, lins, lent, List.length_cons, List.length_nil, List.replicate, List.append_nil, List.cons_append, List.nil_append, reduceIte, Nat.reduceAdd, Nat.reduceSub, Nat.reduceEqDiff, true_and, and_true, Nat.reduceLeDiff, Nat.lt_irrefl, Nat.succ_ne_self, forall_const, ne_eq, not_true_eq_false, not_false_eq_true, false_implies, implies_true, true_implies, true_or, or_true, or_false, false_or, eq_self, Int.reduceEq, Int.reduceLT, Int.reduceLE, Int.reduceNeg, Int.reduceToNat, Int.reduceAdd, Int.reduceSub, Int.reduceMul, Int.reduceNe, and_self]
    refine tx2 c6 c30 (by omega) (fun υ u1 u2 u3 u4 u5 => ?_) h137
    have a1 : Fr (Sw' P) σ τ := (t0.tr t1).wk (fun k j o q => Or.inl q)
    have a2 : Fr (Sw' P) τ υ := u1.wk (fun k j o q => Or.inr q)
    refine h υ (a1.tr a2) u2 u3 l16 (by rw [u4]; exact c68) (fun i hi => ?_)
    rw [Nat.add_assoc (32 * P), u5 (2 * i) (by omega), u5 (2 * i + 1) (by omega)]
    exact pm i hi
end MT
