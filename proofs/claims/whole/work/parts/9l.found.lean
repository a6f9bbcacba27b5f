/-! ===== 9l text: a realm is founded ===== -/
section FND
variable {σ : jM} {Φ : jPh} {d : Nat}
def Sfr : jS := fun k j o => j = 0 ∧ ((k = 9 ∧ (o = 10 ∨ o = 11 ∨ o = 1)) ∨ k = 8 ∨ (34 ≤ k ∧ k ≤ 39) ∨ (41 ≤ k ∧ k ≤ 48) ∨ (k = 0 ∧ o = 2) ∨ (k = 6 ∧ (o = 6 ∨ o = 7 ∨ o = 8)) ∨ (k = 7 ∧ o = 1))
/-- the class behind it -/
def Fnd (τ : jM) (r : Nat) (s : RS) : Prop := τ.2.2 9 0 10 = some r ∧ τ.2.2 9 0 11 = some (1 - r) ∧ RV τ r s ∧ CW τ 0 s.2.1 (W0 s.2.1 s.2.2.2.2.1 (s.2.2.2.1 1)) ∧ τ.1 0 0 2 = 0 ∧ UC τ s.2.1 [] ∧ τ.1 9 0 1 = 0 ∧ τ.1 7 0 1 = 0
theorem RV.fr {S : jS} {τ : jM} {r : Nat} {s : RS} (hF : Fr S σ τ) (hs : ∀ k o, k = 5 ∨ (26 ≤ k ∧ k ≤ 32) → ¬ S k r o) (h : RV σ r s) : RV τ r s := by
  obtain ⟨h1, h2, h3, h4, h5, h6, h7, h8, h9⟩ := h
  have e : ∀ o, τ.1 5 r o = σ.1 5 r o := fun o => hF.i (hs _ _ (Or.inl rfl))
  have g : ∀ k o, 26 ≤ k ∧ k ≤ 32 → τ.1 k r o = σ.1 k r o := fun k o q => hF.i (hs _ _ (Or.inr q))
  refine ⟨h1, h2, by rw [e]; exact h3, by rw [e]; exact h4, by rw [e]; exact h5, by rw [e]; exact h6, by rw [e]; exact h7, fun k hk => ?_, fun f hf => ?_⟩
  · rw [g 26 k (by omega), g 27 k (by omega), g 28 k (by omega)]; exact h8 k hk
  · rw [g 29 f (by omega), g 30 f (by omega), g 31 f (by omega), g 32 f (by omega)]; exact h9 f hf
theorem ok_LB_foundRealm {r : Nat} {s : RS} (hr : r < 2) (h10 : σ.2.2 9 0 10 = some r) (h11 : σ.2.2 9 0 11 = some (1 - r)) (hv : RV σ (1 - r) s) (h : ∀ τ, Fr Sfr σ τ → Fnd τ (1 - r) s → Φ (some (.inl s.2.1)) τ) : Ct (d + 6) M_LB_foundRealm [rf 9 0] σ Φ := by
  refine i_LB_foundRealm (Nat.le_add_right 1 1) ?_
  have hr2 : 1 - (1 - r) = r := by omega
  have t1 : Fr Sfr σ (sR (sR σ 9 0 10 (some (1 - r))) 9 0 11 (some r)) := (Fr.rf.sR (by unfold Sfr; omega)).sR (by unfold Sfr; omega)
  have hv1 : RV (sR (sR σ 9 0 10 (some (1 - r))) 9 0 11 (some r)) (1 - r) s := hv
  have e1 : (sR (sR σ 9 0 10 (some (1 - r))) 9 0 11 (some r)).2.2 9 0 10 = some (1 - r) := rfl
  have e2 : (sR (sR σ 9 0 10 (some (1 - r))) 9 0 11 (some r)).2.2 9 0 11 = some r := rfl
  have e3 : (sR σ 9 0 10 (some (1 - r))).2.2 9 0 11 = some (1 - r) := h11
  simp only [w_LB_foundRealm_0, c_ic, c_lc, c_nul, c_il, c_ll, c_al, c_is, c_ls, c_as, c_inc, c_b2, c_b2n, c_b1, c_d2, c_d2n, c_dsh, c_i2l, c_l2i, c_lcm, c_dup, c_dup2, c_pop, c_j1, c_j2, c_jn, c_sw0, c_sw, c_gI, c_gL, c_gR, c_gS, c_pI, c_pZ, c_pL, c_pR, c_iald, c_ialg, c_iast, c_iasg, c_bald, c_bast, c_lald, c_last, c_aald, c_aals, c_aast, c_alen, c_bnd, c_str, c_bndl, c_bnln, c_sval, c_scod, c_sbal, c_sbln, c_fmt, c_stop, c_iret, c_zret, c_nret, c_aret, c_vret, c_lret, c_cpy, c_callV, c_callS, tkA, lget, lput, lkill, jpush, vsz, jcat, lins, lent, List.length_cons, List.length_nil, List.replicate, List.append_nil, List.cons_append, List.nil_append, reduceIte, Nat.reduceAdd, Nat.reduceSub, Nat.reduceEqDiff, true_and, and_true, Nat.reduceLeDiff, Nat.lt_irrefl, Nat.succ_ne_self, forall_const, ne_eq, not_true_eq_false, not_false_eq_true, false_implies, implies_true, true_implies, true_or, or_true, or_false, false_or, eq_self, Int.reduceEq, Int.reduceLT, Int.reduceLE, Int.reduceNeg, Int.reduceToNat, Int.reduceAdd, Int.reduceSub, Int.reduceMul, Int.reduceNe, and_self, h10, h11, e3, e1]
  generalize sR (sR σ 9 0 10 (some (1 - r))) 9 0 11 (some r) = ρ at *
  refine ok_WO_begin (kr := s.2.2.2.2.1) (c := s.2.2.2.1 1) hv1.1 hv1.2.2.2.2.2.2.2.1 hv1.2.2.2.2.2.2.1 (fun τ t2 cw => ?_)
  have t2s : Fr (SW 0) ρ τ := t2
  have t2 : Fr Sfr ρ τ := t2.wk (fun k j o q => by unfold SW at q; unfold Sfr; omega)
  have t3 : Fr Sfr σ (sI τ 0 0 2 0) := (t1.tr t2).sI (by unfold Sfr; omega)
  have f1 : (sI τ 0 0 2 0).2.2 9 0 10 = some (1 - r) := by
    show τ.2.2 9 0 10 = _
    rw [t2s.r (by unfold SW; omega)]; exact e1
  have f2 : (sI τ 0 0 2 0).2.2 9 0 11 = some r := by
    show τ.2.2 9 0 11 = _
    rw [t2s.r (by unfold SW; omega)]; exact e2
  have f3 : RV (sI τ 0 0 2 0) (1 - r) s := (hv1.fr t2s (fun k o q w => by unfold SW at w; omega)).fr (Fr.rf.sI (S := fun k j o => k = 0) rfl) (fun k o q w => by omega)
  have f4 : CW (sI τ 0 0 2 0) 0 s.2.1 (W0 s.2.1 s.2.2.2.2.1 (s.2.2.2.1 1)) := cw.fr (Fr.rf.sI (S := fun k j o => k = 0) rfl) (fun k o q w => by omega)
  have f5 : (sI τ 0 0 2 0).1 0 0 2 = 0 := rfl
  simp only [c_ic, c_lc, c_nul, c_il, c_ll, c_al, c_is, c_ls, c_as, c_inc, c_b2, c_b2n, c_b1, c_d2, c_d2n, c_dsh, c_i2l, c_l2i, c_lcm, c_dup, c_dup2, c_pop, c_j1, c_j2, c_jn, c_sw0, c_sw, c_gI, c_gL, c_gR, c_gS, c_pI, c_pZ, c_pL, c_pR, c_iald, c_ialg, c_iast, c_iasg, c_bald, c_bast, c_lald, c_last, c_aald, c_aals, c_aast, c_alen, c_bnd, c_str, c_bndl, c_bnln, c_sval, c_scod, c_sbal, c_sbln, c_fmt, c_stop, c_iret, c_zret, c_nret, c_aret, c_vret, c_lret, c_cpy, c_callV, c_callS, tkA, lget, lput, lkill, jpush, vsz, jcat, lins, lent, List.length_cons, List.length_nil, List.replicate, List.append_nil, List.cons_append, List.nil_append, reduceIte, Nat.reduceAdd, Nat.reduceSub, Nat.reduceEqDiff, true_and, and_true, Nat.reduceLeDiff, Nat.lt_irrefl, Nat.succ_ne_self, forall_const, ne_eq, not_true_eq_false, not_false_eq_true, false_implies, implies_true, true_implies, true_or, or_true, or_false, false_or, eq_self, Int.reduceEq, Int.reduceLT, Int.reduceLE, Int.reduceNeg, Int.reduceToNat, Int.reduceAdd, Int.reduceSub, Int.reduceMul, Int.reduceNe, and_self]
  refine ok_AC_forget ?_
  generalize sI τ 0 0 2 0 = υ at *
  simp only [c_ic, c_lc, c_nul, c_il, c_ll, c_al, c_is, c_ls, c_as, c_inc, c_b2, c_b2n, c_b1, c_d2, c_d2n, c_dsh, c_i2l, c_l2i, c_lcm, c_dup, c_dup2, c_pop, c_j1, c_j2, c_jn, c_sw0, c_sw, c_gI, c_gL, c_gR, c_gS, c_pI, c_pZ, c_pL, c_pR, c_iald, c_ialg, c_iast, c_iasg, c_bald, c_bast, c_lald, c_last, c_aald, c_aals, c_aast, c_alen, c_bnd, c_str, c_bndl, c_bnln, c_sval, c_scod, c_sbal, c_sbln, c_fmt, c_stop, c_iret, c_zret, c_nret, c_aret, c_vret, c_lret, c_cpy, c_callV, c_callS, tkA, lget, lput, lkill, jpush, vsz, jcat, lins, lent, List.length_cons, List.length_nil, List.replicate, List.append_nil, List.cons_append, List.nil_append, reduceIte, Nat.reduceAdd, Nat.reduceSub, Nat.reduceEqDiff, true_and, and_true, Nat.reduceLeDiff, Nat.lt_irrefl, Nat.succ_ne_self, forall_const, ne_eq, not_true_eq_false, not_false_eq_true, false_implies, implies_true, true_implies, true_or, or_true, or_false, false_or, eq_self, Int.reduceEq, Int.reduceLT, Int.reduceLE, Int.reduceNeg, Int.reduceToNat, Int.reduceAdd, Int.reduceSub, Int.reduceMul, Int.reduceNe, and_self, f1, f3.2.2.1]
  refine ok_RU_begin f3.1 (fun ω t4 uc => ?_)
  have g1 : ω.2.2 9 0 10 = some (1 - r) := by rw [t4.r (by unfold SRu; omega)]; exact f1
  have g2 : ω.2.2 9 0 11 = some r := by rw [t4.r (by unfold SRu; omega)]; exact f2
  have g3 : RV ω (1 - r) s := f3.fr t4 (fun k o q w => by unfold SRu at w; omega)
  have g4 : CW ω 0 s.2.1 (W0 s.2.1 s.2.2.2.2.1 (s.2.2.2.1 1)) := f4.fr t4 (fun k o q w => by unfold SRu at w; omega)
  have g5 : ω.1 0 0 2 = 0 := by rw [t4.i (by unfold SRu; omega)]; exact f5
  have t5 : Fr Sfr σ ω := t3.tr (t4.wk (fun k j o q => by unfold SRu at q; unfold Sfr; omega))
  have t6 : Fr (fun k j o => (k = 9 ∧ o = 1) ∨ (k = 7 ∧ o = 1)) ω (sI (sI ω 9 0 1 0) 7 0 1 0) := (Fr.rf.sI (Or.inl ⟨rfl, rfl⟩)).sI (Or.inr ⟨rfl, rfl⟩)
  have c8 : (sI (sI ω 9 0 1 0) 7 0 1 0).1 5 (1 - r) 8 = s.2.1 := g3.2.2.1
  have c10 : (sI (sI ω 9 0 1 0) 7 0 1 0).2.2 9 0 10 = some (1 - r) := g1
  simp only [c_ic, c_lc, c_nul, c_il, c_ll, c_al, c_is, c_ls, c_as, c_inc, c_b2, c_b2n, c_b1, c_d2, c_d2n, c_dsh, c_i2l, c_l2i, c_lcm, c_dup, c_dup2, c_pop, c_j1, c_j2, c_jn, c_sw0, c_sw, c_gI, c_gL, c_gR, c_gS, c_pI, c_pZ, c_pL, c_pR, c_iald, c_ialg, c_iast, c_iasg, c_bald, c_bast, c_lald, c_last, c_aald, c_aals, c_aast, c_alen, c_bnd, c_str, c_bndl, c_bnln, c_sval, c_scod, c_sbal, c_sbln, c_fmt, c_stop, c_iret, c_zret, c_nret, c_aret, c_vret, c_lret, c_cpy, c_callV, c_callS, tkA, lget, lput, lkill, jpush, vsz, jcat, lins, lent, List.length_cons, List.length_nil, List.replicate, List.append_nil, List.cons_append, List.nil_append, reduceIte, Nat.reduceAdd, Nat.reduceSub, Nat.reduceEqDiff, true_and, and_true, Nat.reduceLeDiff, Nat.lt_irrefl, Nat.succ_ne_self, forall_const, ne_eq, not_true_eq_false, not_false_eq_true, false_implies, implies_true, true_implies, true_or, or_true, or_false, false_or, eq_self, Int.reduceEq, Int.reduceLT, Int.reduceLE, Int.reduceNeg, Int.reduceToNat, Int.reduceAdd, Int.reduceSub, Int.reduceMul, Int.reduceNe, and_self, c10, c8]
  refine h (sI (sI ω 9 0 1 0) 7 0 1 0) ((t5.sI (by unfold Sfr; omega)).sI (by unfold Sfr; omega)) ⟨g1, by rw [hr2]; exact g2, g3.fr t6 (fun k o q w => by omega), g4.fr t6 (fun k o q w => by omega), g5, UC.fr t6 (fun k j o q w => by unfold fD at q; omega) uc, rfl, rfl⟩
end FND
