/-! ===== 9k text: the model's part for a law, for a campaign ===== -/
section TX1
variable {σ : jM} {Φ : jPh} {d : Nat}
def Sty (N : Nat) : jS := fun k j o => (k = 10 ∧ j = 0 ∧ (o = 6 ∨ o = 7)) ∨ (k = 60 ∧ j = 1 ∧ 240 * N ≤ o ∧ o < 240 * N + 240) ∨ (k = 61 ∧ j = 0 ∧ o = N)
theorem tx1 {N n : Nat} {T : Nat → Int} {At : Nat → jWp} {x2 x3 x4 : Option jV} (hT : TX σ 0 0 n T) (h6 : σ.1 10 0 6 = n) (h7 : σ.1 10 0 7 = N) (hN : N < 4)
    (h : ∀ τ, Fr (Sty N) σ τ → τ.1 10 0 6 = 0 → τ.1 10 0 7 = ((N + 1 : Nat) : Int) → τ.1 61 0 N = n → TX τ 1 (240 * N) n T → Φ (some (.inl N)) τ)
    (h71 : ∀ ls st τ, w_MO_text_71 At Φ d ls st τ → At 71 ls st τ) :
    w_MO_text_54 At Φ d [some (rf 10 0), some (.inl 1), x2, x3, x4] [] σ := by
  have l600 : jln 60 0 = 240 := by decide
  have l601 : jln 60 1 = 960 := by decide
  obtain ⟨t1, t2, t3, t4, t5⟩ := id hT
  have key : ∀ (m i : Nat) (τ : jM), i + m = n → Fr (Sty N) σ τ → τ.1 10 0 6 = 0 → τ.1 10 0 7 = N → (∀ o, o < i → τ.1 60 1 (240 * N + o) = s8 (T o)) → At 71 [some (rf 10 0), some (.inl 1), some (.inl n), some (.inl i), x4] [] τ := by
    intro m
    induction m with
    | zero =>
      intro i τ hi hF c6 c7 hc
      refine h71 _ _ _ ?_
      obtain rfl : i = n := by omega
      have e7 : ∀ v, (sI τ 61 0 N v).1 10 0 7 = N := fun _ => c7
      simp only [w_MO_text_71, w_MO_text_103, c_ic, c_lc, c_nul, c_il, c_ll, c_al, c_is, c_ls, c_as, c_inc, c_b2, c_b2n, c_b1, c_d2, c_d2n, c_dsh, c_i2l, c_l2i, c_lcm, c_dup, c_dup2, c_pop, c_j1, c_j2, c_jn, c_sw0, c_sw, c_gI, c_gL, c_gR, c_gS, c_pI, c_pZ, c_pL, c_pR, c_iald, c_ialg, c_iast, c_iasg, c_bald, c_bast, c_lald, c_last, c_aald, c_aals, c_aast, c_alen, c_bnd, c_str, c_bndl, c_bnln, c_sval, c_scod, c_sbal, c_sbln, c_fmt, c_stop, c_iret, c_zret, c_nret, c_aret, c_vret, c_lret, c_cpy, c_callV, c_callS, tkA, lget, lput, lkill, jpush, vsz, jcat, lins, lent, List.length_cons, List.length_nil, List.replicate, List.append_nil, List.cons_append, List.nil_append, reduceIte, Nat.reduceAdd, Nat.reduceSub, Nat.reduceEqDiff, true_and, and_true, Nat.reduceLeDiff, Nat.lt_irrefl, Nat.succ_ne_self, forall_const, ne_eq, not_true_eq_false, not_false_eq_true, false_implies, implies_true, true_implies, true_or, or_true, or_false, false_or, eq_self, Int.reduceEq, Int.reduceLT, Int.reduceLE, Int.reduceNeg, Int.reduceToNat, Int.reduceAdd, Int.reduceSub, Int.reduceMul, Int.reduceNe, and_self, c7, Int.toNat_natCast, e7, inc_nat (show N ≤ 100000 by omega)]
      refine ⟨fun _ => ⟨⟨by omega, by omega⟩, ?_⟩, fun w => absurd (Int.le_refl _) w⟩
      have e : wr ((sI (sI τ 61 0 N i) 10 0 7 ((N + 1 : Nat) : Int)).1 10 0 7 - 1) = N := by
        show wr (((N + 1 : Nat) : Int) - 1) = N
        rw [wr_id (by omega) (by omega)]
        omega
      rw [e]
      refine h (sI (sI τ 61 0 N i) 10 0 7 ((N + 1 : Nat) : Int)) ((hF.sI (by unfold Sty; omega)).sI (by unfold Sty; omega)) c6 rfl ?_ ⟨t1, by omega, by omega, hc, t5⟩
      show (if (61 : Nat) = 10 ∧ (0 : Nat) = 0 ∧ N = 7 then ((N + 1 : Nat) : Int) else if (61 : Nat) = 61 ∧ (0 : Nat) = 0 ∧ N = N then (i : Int) else τ.1 61 0 N) = i
      rw [if_neg (by omega), if_pos ⟨rfl, rfl, rfl⟩]
    | succ m ih =>
      intro i τ hi hF c6 c7 hc
      refine h71 _ _ _ ?_
      have g0 : wr (240 * (N : Int)) = ((240 * N : Nat) : Int) := by simp (disch := omega) only [wr_id]; omega
      have g1 : wr (((240 * N : Nat) : Int) + (i : Int)) = ((240 * N + i : Nat) : Int) := by simp (disch := omega) only [wr_id]; omega
      have c60 : τ.1 60 0 i = s8 (T i) := by
        rw [hF.i (by unfold Sty; omega)]
        have := t4 i (by omega)
        rw [Nat.zero_add] at this
        exact this
      have hti := t5 i (by omega)
      have jb : jbyt (s8 (T i)) = s8 (T i) := by
        obtain ⟨c, hc⟩ := Int.eq_ofNat_of_zero_le (show 0 ≤ T i by omega)
        rw [hc]
        exact b8_s c (by omega)
      simp only [w_MO_text_71, c_ic, c_lc, c_nul, c_il, c_ll, c_al, c_is, c_ls, c_as, c_inc, c_b2, c_b2n, c_b1, c_d2, c_d2n, c_dsh, c_i2l, c_l2i, c_lcm, c_dup, c_dup2, c_pop, c_j1, c_j2, c_jn, c_sw0, c_sw, c_gI, c_gL, c_gR, c_gS, c_pI, c_pZ, c_pL, c_pR, c_iald, c_ialg, c_iast, c_iasg, c_bald, c_bast, c_lald, c_last, c_aald, c_aals, c_aast, c_alen, c_bnd, c_str, c_bndl, c_bnln, c_sval, c_scod, c_sbal, c_sbln, c_fmt, c_stop, c_iret, c_zret, c_nret, c_aret, c_vret, c_lret, c_cpy, c_callV, c_callS, tkA, lget, lput, lkill, jpush, vsz, jcat, lins, lent, List.length_cons, List.length_nil, List.replicate, List.append_nil, List.cons_append, List.nil_append, reduceIte, Nat.reduceAdd, Nat.reduceSub, Nat.reduceEqDiff, true_and, and_true, Nat.reduceLeDiff, Nat.lt_irrefl, Nat.succ_ne_self, forall_const, ne_eq, not_true_eq_false, not_false_eq_true, false_implies, implies_true, true_implies, true_or, or_true, or_false, false_or, eq_self, Int.reduceEq, Int.reduceLT, Int.reduceLE, Int.reduceNeg, Int.reduceToNat, Int.reduceAdd, Int.reduceSub, Int.reduceMul, Int.reduceNe, and_self, c7, g0, g1, Int.toNat_natCast, l600, l601, c60, jb, inc_nat (show i ≤ 100000 by omega)]
      refine ⟨fun w => absurd w (by omega), fun _ => ⟨⟨by omega, by omega⟩, ⟨by omega, by omega⟩, ?_⟩⟩
      refine ih (i + 1) (sI τ 60 1 (240 * N + i) (s8 (T i))) (by omega) (hF.sI (by unfold Sty; omega)) c6 c7 (fun o ho => ?_)
      simp only [g_sI, true_and]
      by_cases y : o = i
      · rw [if_pos (by omega), y]
      · rw [if_neg (by omega)]; exact hc o (by omega)
  have c6 : ∀ v, (sI σ 10 0 6 v).1 10 0 6 = v := fun _ => rfl
  simp only [w_MO_text_54, c_ic, c_lc, c_nul, c_il, c_ll, c_al, c_is, c_ls, c_as, c_inc, c_b2, c_b2n, c_b1, c_d2, c_d2n, c_dsh, c_i2l, c_l2i, c_lcm, c_dup, c_dup2, c_pop, c_j1, c_j2, c_jn, c_sw0, c_sw, c_gI, c_gL, c_gR, c_gS, c_pI, c_pZ, c_pL, c_pR, c_iald, c_ialg, c_iast, c_iasg, c_bald, c_bast, c_lald, c_last, c_aald, c_aals, c_aast, c_alen, c_bnd, c_str, c_bndl, c_bnln, c_sval, c_scod, c_sbal, c_sbln, c_fmt, c_stop, c_iret, c_zret, c_nret, c_aret, c_vret, c_lret, c_cpy, c_callV, c_callS, tkA, lget, lput, lkill, jpush, vsz, jcat, lins, lent, List.length_cons, List.length_nil, List.replicate, List.append_nil, List.cons_append, List.nil_append, reduceIte, Nat.reduceAdd, Nat.reduceSub, Nat.reduceEqDiff, true_and, and_true, Nat.reduceLeDiff, Nat.lt_irrefl, Nat.succ_ne_self, forall_const, ne_eq, not_true_eq_false, not_false_eq_true, false_implies, implies_true, true_implies, true_or, or_true, or_false, false_or, eq_self, Int.reduceEq, Int.reduceLT, Int.reduceLE, Int.reduceNeg, Int.reduceToNat, Int.reduceAdd, Int.reduceSub, Int.reduceMul, Int.reduceNe, and_self, h6]
  exact key n 0 (sI σ 10 0 6 0) (Nat.zero_add _) (Fr.rf.sI (by unfold Sty; omega)) rfl h7 (fun o ho => absurd ho (by omega))
def Stz (P : Nat) : jS := fun k j o => (k = 10 ∧ j = 0 ∧ (o = 6 ∨ o = 30)) ∨ (k = 67 ∧ j = 0 ∧ 32 * P ≤ o ∧ o < 32 * P + 32) ∨ (k = 68 ∧ j = 0 ∧ o = P)
theorem tx2 {P : Nat} {n : Int} {At : Nat → jWp} {x2 x3 x4 : Option jV} (h6 : σ.1 10 0 6 = n) (h30 : σ.1 10 0 30 = P) (hP : P < 4)
    (h : ∀ τ, Fr (Stz P) σ τ → τ.1 10 0 6 = 0 → τ.1 10 0 30 = ((P + 1 : Nat) : Int) → τ.1 68 0 P = σ.1 68 0 4 → (∀ i, i < 32 → τ.1 67 0 (32 * P + i) = σ.1 67 0 (128 + i)) → Φ (some (.inl P)) τ)
    (h137 : ∀ ls st τ, w_MO_text_137 At Φ d ls st τ → At 137 ls st τ) :
    w_MO_text_54 At Φ d [some (rf 10 0), some (.inl 2), x2, x3, x4] [] σ := by
  have key : ∀ (m i : Nat) (τ : jM), i + m = 32 → Fr (Stz P) σ τ → τ.1 10 0 6 = 0 → τ.1 10 0 30 = P → (∀ o, o < i → τ.1 67 0 (32 * P + o) = σ.1 67 0 (128 + o)) → At 137 [some (rf 10 0), some (.inl 2), some (.inl n), some (.inl i), x4] [] τ := by
    intro m
    induction m with
    | zero =>
      intro i τ hi hF c6 c7 hc
      refine h137 _ _ _ ?_
      obtain rfl : i = 32 := by omega
      have e7 : ∀ v, (sI τ 68 0 P v).1 10 0 30 = P := fun _ => c7
      have e68 : τ.1 68 0 4 = σ.1 68 0 4 := hF.i (by unfold Stz; omega)
      simp only [w_MO_text_137, w_MO_text_173, c_ic, c_lc, c_nul, c_il, c_ll, c_al, c_is, c_ls, c_as, c_inc, c_b2, c_b2n, c_b1, c_d2, c_d2n, c_dsh, c_i2l, c_l2i, c_lcm, c_dup, c_dup2, c_pop, c_j1, c_j2, c_jn, c_sw0, c_sw, c_gI, c_gL, c_gR, c_gS, c_pI, c_pZ, c_pL, c_pR, c_iald, c_ialg, c_iast, c_iasg, c_bald, c_bast, c_lald, c_last, c_aald, c_aals, c_aast, c_alen, c_bnd, c_str, c_bndl, c_bnln, c_sval, c_scod, c_sbal, c_sbln, c_fmt, c_stop, c_iret, c_zret, c_nret, c_aret, c_vret, c_lret, c_cpy, c_callV, c_callS, tkA, lget, lput, lkill, jpush, vsz, jcat, lins, lent, List.length_cons, List.length_nil, List.replicate, List.append_nil, List.cons_append, List.nil_append, reduceIte, Nat.reduceAdd, Nat.reduceSub, Nat.reduceEqDiff, true_and, and_true, Nat.reduceLeDiff, Nat.lt_irrefl, Nat.succ_ne_self, forall_const, ne_eq, not_true_eq_false, not_false_eq_true, false_implies, implies_true, true_implies, true_or, or_true, or_false, false_or, eq_self, Int.reduceEq, Int.reduceLT, Int.reduceLE, Int.reduceNeg, Int.reduceToNat, Int.reduceAdd, Int.reduceSub, Int.reduceMul, Int.reduceNe, and_self, c7, Int.toNat_natCast, e7, inc_nat (show P ≤ 100000 by omega)]
      refine ⟨fun _ => ⟨by decide, ⟨by omega, by omega⟩, ?_⟩, fun w => absurd (by decide) w⟩
      have e : wr ((sI (sI τ 68 0 P (τ.1 68 0 4)) 10 0 30 ((P + 1 : Nat) : Int)).1 10 0 30 - 1) = P := by
        show wr (((P + 1 : Nat) : Int) - 1) = P
        rw [wr_id (by omega) (by omega)]
        omega
      rw [e]
      refine h (sI (sI τ 68 0 P (τ.1 68 0 4)) 10 0 30 ((P + 1 : Nat) : Int)) ((hF.sI (by unfold Stz; omega)).sI (by unfold Stz; omega)) c6 rfl ?_ hc
      show (if (68 : Nat) = 10 ∧ (0 : Nat) = 0 ∧ P = 30 then ((P + 1 : Nat) : Int) else if (68 : Nat) = 68 ∧ (0 : Nat) = 0 ∧ P = P then τ.1 68 0 4 else τ.1 68 0 P) = σ.1 68 0 4
      rw [if_neg (by omega), if_pos ⟨rfl, rfl, rfl⟩]
      exact e68
    | succ m ih =>
      intro i τ hi hF c6 c7 hc
      refine h137 _ _ _ ?_
      have g0 : wr (32 * (P : Int)) = ((32 * P : Nat) : Int) := by simp (disch := omega) only [wr_id]; omega
      have g1 : wr (((32 * P : Nat) : Int) + (i : Int)) = ((32 * P + i : Nat) : Int) := by simp (disch := omega) only [wr_id]; omega
      have g2 : wr (128 + (i : Int)) = ((128 + i : Nat) : Int) := by simp (disch := omega) only [wr_id]; omega
      have c67 : τ.1 67 0 (128 + i) = σ.1 67 0 (128 + i) := hF.i (by unfold Stz; omega)
      simp only [w_MO_text_137, c_ic, c_lc, c_nul, c_il, c_ll, c_al, c_is, c_ls, c_as, c_inc, c_b2, c_b2n, c_b1, c_d2, c_d2n, c_dsh, c_i2l, c_l2i, c_lcm, c_dup, c_dup2, c_pop, c_j1, c_j2, c_jn, c_sw0, c_sw, c_gI, c_gL, c_gR, c_gS, c_pI, c_pZ, c_pL, c_pR, c_iald, c_ialg, c_iast, c_iasg, c_bald, c_bast, c_lald, c_last, c_aald, c_aals, c_aast, c_alen, c_bnd, c_str, c_bndl, c_bnln, c_sval, c_scod, c_sbal, c_sbln, c_fmt, c_stop, c_iret, c_zret, c_nret, c_aret, c_vret, c_lret, c_cpy, c_callV, c_callS, tkA, lget, lput, lkill, jpush, vsz, jcat, lins, lent, List.length_cons, List.length_nil, List.replicate, List.append_nil, List.cons_append, List.nil_append, reduceIte, Nat.reduceAdd, Nat.reduceSub, Nat.reduceEqDiff, true_and, and_true, Nat.reduceLeDiff, Nat.lt_irrefl, Nat.succ_ne_self, forall_const, ne_eq, not_true_eq_false, not_false_eq_true, false_implies, implies_true, true_implies, true_or, or_true, or_false, false_or, eq_self, Int.reduceEq, Int.reduceLT, Int.reduceLE, Int.reduceNeg, Int.reduceToNat, Int.reduceAdd, Int.reduceSub, Int.reduceMul, Int.reduceNe, and_self, c7, g0, g1, g2, Int.toNat_natCast, c67, inc_nat (show i ≤ 100000 by omega)]
      refine ⟨fun w => absurd w (by omega), fun _ => ⟨⟨by omega, by omega⟩, ⟨by omega, by omega⟩, ?_⟩⟩
      refine ih (i + 1) (sI τ 67 0 (32 * P + i) (σ.1 67 0 (128 + i))) (by omega) (hF.sI (by unfold Stz; omega)) c6 c7 (fun o ho => ?_)
      simp only [g_sI, true_and]
      by_cases y : o = i
      · rw [if_pos (by omega), y]
      · rw [if_neg (by omega)]; exact hc o (by omega)
  simp only [w_MO_text_54, w_MO_text_130, c_ic, c_lc, c_nul, c_il, c_ll, c_al, c_is, c_ls, c_as, c_inc, c_b2, c_b2n, c_b1, c_d2, c_d2n, c_dsh, c_i2l, c_l2i, c_lcm, c_dup, c_dup2, c_pop, c_j1, c_j2, c_jn, c_sw0, c_sw, c_gI, c_gL, c_gR, c_gS, c_pI, c_pZ, c_pL, c_pR, c_iald, c_ialg, c_iast, c_iasg, c_bald, c_bast, c_lald, c_last, c_aald, c_aals, c_aast, c_alen, c_bnd, c_str, c_bndl, c_bnln, c_sval, c_scod, c_sbal, c_sbln, c_fmt, c_stop, c_iret, c_zret, c_nret, c_aret, c_vret, c_lret, c_cpy, c_callV, c_callS, tkA, lget, lput, lkill, jpush, vsz, jcat, lins, lent, List.length_cons, List.length_nil, List.replicate, List.append_nil, List.cons_append, List.nil_append, reduceIte, Nat.reduceAdd, Nat.reduceSub, Nat.reduceEqDiff, true_and, and_true, Nat.reduceLeDiff, Nat.lt_irrefl, Nat.succ_ne_self, forall_const, ne_eq, not_true_eq_false, not_false_eq_true, false_implies, implies_true, true_implies, true_or, or_true, or_false, false_or, eq_self, Int.reduceEq, Int.reduceLT, Int.reduceLE, Int.reduceNeg, Int.reduceToNat, Int.reduceAdd, Int.reduceSub, Int.reduceMul, Int.reduceNe, and_self, h6]
  exact key 32 0 (sI σ 10 0 6 0) rfl (Fr.rf.sI (by unfold Stz; omega)) rfl h30 (fun o ho => absurd ho (by omega))
end TX1
