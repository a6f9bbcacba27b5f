/-! ===== 9j text: the model's part for a realm ===== -/
section TX0
variable {σ : jM} {Φ : jPh} {d : Nat}
def Stx : jS := fun k j o => j = 0 ∧ ((k = 10 ∧ (o = 26 ∨ o = 27 ∨ o = 39 ∨ o = 44 ∨ o = 47)) ∨ k = 63 ∨ k = 65 ∨ k = 66 ∨ k = 69)
theorem tx0 {K F : Nat} {At : Nat → jWp} {n : Int} {x3 x4 : Option jV} (hk : σ.1 10 0 28 = K) (hf : σ.1 10 0 29 = F) (hK : K ≤ 4) (hF8 : F ≤ 8)
    (h : ∀ τ, Fr Stx σ τ → τ.1 10 0 26 = K → τ.1 10 0 27 = F → τ.1 10 0 39 = 0 → τ.1 10 0 44 = 0 → τ.1 10 0 47 = 0 → (∀ o, o < 2 → τ.1 63 0 o = σ.1 64 0 o) → (∀ o, o < 12 → τ.1 65 0 o = σ.1 64 1 o) → (∀ o, o < 32 → τ.1 66 0 o = σ.1 64 2 o) → (∀ p, p < 291 → τ.1 69 0 p = W0 K (σ.1 64 1) (σ.1 64 0 1) p) → Φ (some (.inl K)) τ)
    (h223 : ∀ ls st τ, w_MO_text_223 At Φ d ls st τ → At 223 ls st τ) (h248 : ∀ ls st τ, w_MO_text_248 At Φ d ls st τ → At 248 ls st τ) (h274 : ∀ ls st τ, w_MO_text_274 At Φ d ls st τ → At 274 ls st τ) (h300 : ∀ ls st τ, w_MO_text_300 At Φ d ls st τ → At 300 ls st τ) (h322 : ∀ ls st τ, w_MO_text_322 At Φ d ls st τ → At 322 ls st τ) (h333 : ∀ ls st τ, w_MO_text_333 At Φ d ls st τ → At 333 ls st τ) :
    w_MO_text_205 At Φ d [some (rf 10 0), some (.inl 0), some (.inl n), x3, x4] [] σ := by
  have j64 : ∀ τ, Fr Stx σ τ → ∀ j o, τ.1 64 j o = σ.1 64 j o := fun τ hF j o => hF.i (by unfold Stx; omega)
  let Z : jM → Prop := fun τ => Fr Stx σ τ ∧ τ.1 10 0 26 = K ∧ τ.1 10 0 27 = F
  have zst : ∀ (τ : jM) (k o : Nat) (v : Int), Z τ → (k = 63 ∨ k = 65 ∨ k = 66 ∨ k = 69) → Z (sI τ k 0 o v) := by
    intro τ k o v hz hk
    refine ⟨hz.1.sI ⟨rfl, Or.inr hk⟩, ?_, ?_⟩
    · rw [g_sI, if_neg (by omega)]; exact hz.2.1
    · rw [g_sI, if_neg (by omega)]; exact hz.2.2
  have l63 : jln 63 0 = 2 := by decide
  have l69 : jln 69 0 = 291 := by decide
  have l640 : jln 64 0 = 2 := by decide
  have l641 : jln 64 1 = 12 := by decide
  have l642 : jln 64 2 = 32 := by decide
  -- the kingdoms' items into the world
  have lp5 : ∀ (m k : Nat) (τ : jM) (x4 : Option jV), k + m = K → Z τ → (∀ o, o < 2 → τ.1 63 0 o = σ.1 64 0 o) → (∀ o, o < 12 → τ.1 65 0 o = σ.1 64 1 o) → (∀ o, o < 32 → τ.1 66 0 o = σ.1 64 2 o) → (∀ p, p < 291 → τ.1 69 0 p = if p < 4 * k ∧ p % 4 < 3 then σ.1 64 1 (3 * (p / 4) + p % 4) else 0) → At 322 [some (rf 10 0), some (.inl 0), some (.inl n), some (.inl k), x4] [] τ := by
    intro m
    induction m with
    | zero =>
      intro k τ x4 hkm hz z1 z2 z3 z4
      refine h322 _ _ _ ?_
      have c26 : ∀ v, (sI τ 69 0 17 v).1 10 0 26 = K := fun v => hz.2.1
      simp only [w_MO_text_322, w_MO_text_373, c_ic, c_lc, c_nul, c_il, c_ll, c_al, c_is, c_ls, c_as, c_inc, c_b2, c_b2n, c_b1, c_d2, c_d2n, c_dsh, c_i2l, c_l2i, c_lcm, c_dup, c_dup2, c_pop, c_j1, c_j2, c_jn, c_sw0, c_sw, c_gI, c_gL, c_gR, c_gS, c_pI, c_pZ, c_pL, c_pR, c_iald, c_ialg, c_iast, c_iasg, c_bald, c_bast, c_lald, c_last, c_aald, c_aals, c_aast, c_alen, c_bnd, c_str, c_bndl, c_bnln, c_sval, c_scod, c_sbal, c_sbln, c_fmt, c_stop, c_iret, c_zret, c_nret, c_aret, c_vret, c_lret, c_cpy, c_callV, c_callS, tkA, lget, lput, lkill, jpush, vsz, jcat, lins, lent, List.length_cons, List.length_nil, List.replicate, List.append_nil, List.cons_append, List.nil_append, reduceIte, Nat.reduceAdd, Nat.reduceSub, Nat.reduceEqDiff, true_and, and_true, Nat.reduceLeDiff, Nat.lt_irrefl, Nat.succ_ne_self, forall_const, ne_eq, not_true_eq_false, not_false_eq_true, false_implies, implies_true, true_implies, true_or, or_true, or_false, false_or, eq_self, Int.reduceEq, Int.reduceLT, Int.reduceLE, Int.reduceNeg, Int.reduceToNat, Int.reduceAdd, Int.reduceSub, Int.reduceMul, Int.reduceNe, and_self, hz.2.1, l69, z1 1 (by decide), c26]
      refine ⟨fun _ => ?_, fun w => absurd w (by omega)⟩
      obtain rfl : k = K := by omega
      refine ⟨by decide, by decide, by decide, ?_⟩
      have e26 : (sI (sI (sI (sI τ 69 0 17 (σ.1 64 0 1)) 10 0 44 0) 10 0 39 0) 10 0 47 0).1 10 0 26 = k := hz.2.1
      rw [e26]
      refine h (sI (sI (sI (sI τ 69 0 17 (σ.1 64 0 1)) 10 0 44 0) 10 0 39 0) 10 0 47 0) ((((hz.1.sI (by unfold Stx; omega)).sI (by unfold Stx; omega)).sI (by unfold Stx; omega)).sI (by unfold Stx; omega)) hz.2.1 hz.2.2 rfl rfl rfl z1 z2 z3 (fun p hp => ?_)
      show (if (69 : Nat) = 69 ∧ (0 : Nat) = 0 ∧ p = 17 then σ.1 64 0 1 else τ.1 69 0 p) = _
      unfold W0
      by_cases y : p = 17
      · subst y
        rw [if_pos ⟨rfl, rfl, rfl⟩, if_neg (by omega), if_pos rfl]
      · rw [if_neg (fun e => y e.2.2), z4 p hp]
        by_cases y2 : p < 4 * k ∧ p % 4 < 3
        · rw [if_pos y2, if_pos y2]
        · rw [if_neg y2, if_neg y2, if_neg y]
    | succ m ih =>
      intro k τ x4 hkm hz z1 z2 z3 z4
      refine h322 _ _ _ ?_
      simp only [w_MO_text_322, c_ic, c_lc, c_nul, c_il, c_ll, c_al, c_is, c_ls, c_as, c_inc, c_b2, c_b2n, c_b1, c_d2, c_d2n, c_dsh, c_i2l, c_l2i, c_lcm, c_dup, c_dup2, c_pop, c_j1, c_j2, c_jn, c_sw0, c_sw, c_gI, c_gL, c_gR, c_gS, c_pI, c_pZ, c_pL, c_pR, c_iald, c_ialg, c_iast, c_iasg, c_bald, c_bast, c_lald, c_last, c_aald, c_aals, c_aast, c_alen, c_bnd, c_str, c_bndl, c_bnln, c_sval, c_scod, c_sbal, c_sbln, c_fmt, c_stop, c_iret, c_zret, c_nret, c_aret, c_vret, c_lret, c_cpy, c_callV, c_callS, tkA, lget, lput, lkill, jpush, vsz, jcat, lins, lent, List.length_cons, List.length_nil, List.replicate, List.append_nil, List.cons_append, List.nil_append, reduceIte, Nat.reduceAdd, Nat.reduceSub, Nat.reduceEqDiff, true_and, and_true, Nat.reduceLeDiff, Nat.lt_irrefl, Nat.succ_ne_self, forall_const, ne_eq, not_true_eq_false, not_false_eq_true, false_implies, implies_true, true_implies, true_or, or_true, or_false, false_or, eq_self, Int.reduceEq, Int.reduceLT, Int.reduceLE, Int.reduceNeg, Int.reduceToNat, Int.reduceAdd, Int.reduceSub, Int.reduceMul, Int.reduceNe, and_self, hz.2.1]
      refine ⟨fun w => absurd w (by omega), fun _ => ?_⟩
      have inn : ∀ (m q : Nat) (τ : jM), q + m = 3 → Z τ → (∀ o, o < 2 → τ.1 63 0 o = σ.1 64 0 o) → (∀ o, o < 12 → τ.1 65 0 o = σ.1 64 1 o) → (∀ o, o < 32 → τ.1 66 0 o = σ.1 64 2 o) → (∀ p, p < 291 → τ.1 69 0 p = if p < 4 * k + q ∧ p % 4 < 3 then σ.1 64 1 (3 * (p / 4) + p % 4) else 0) → At 333 [some (rf 10 0), some (.inl 0), some (.inl n), some (.inl k), some (.inl q)] [] τ := by
        intro m
        induction m with
        | zero =>
          intro q τ hq hz z1 z2 z3 z4
          refine h333 _ _ _ ?_
          obtain rfl : q = 3 := by omega
          simp only [w_MO_text_333, w_MO_text_367, c_ic, c_lc, c_nul, c_il, c_ll, c_al, c_is, c_ls, c_as, c_inc, c_b2, c_b2n, c_b1, c_d2, c_d2n, c_dsh, c_i2l, c_l2i, c_lcm, c_dup, c_dup2, c_pop, c_j1, c_j2, c_jn, c_sw0, c_sw, c_gI, c_gL, c_gR, c_gS, c_pI, c_pZ, c_pL, c_pR, c_iald, c_ialg, c_iast, c_iasg, c_bald, c_bast, c_lald, c_last, c_aald, c_aals, c_aast, c_alen, c_bnd, c_str, c_bndl, c_bnln, c_sval, c_scod, c_sbal, c_sbln, c_fmt, c_stop, c_iret, c_zret, c_nret, c_aret, c_vret, c_lret, c_cpy, c_callV, c_callS, tkA, lget, lput, lkill, jpush, vsz, jcat, lins, lent, List.length_cons, List.length_nil, List.replicate, List.append_nil, List.cons_append, List.nil_append, reduceIte, Nat.reduceAdd, Nat.reduceSub, Nat.reduceEqDiff, true_and, and_true, Nat.reduceLeDiff, Nat.lt_irrefl, Nat.succ_ne_self, forall_const, ne_eq, not_true_eq_false, not_false_eq_true, false_implies, implies_true, true_implies, true_or, or_true, or_false, false_or, eq_self, Int.reduceEq, Int.reduceLT, Int.reduceLE, Int.reduceNeg, Int.reduceToNat, Int.reduceAdd, Int.reduceSub, Int.reduceMul, Int.reduceNe, and_self, inc_nat (show k ≤ 100000 by omega)]
          refine ⟨fun _ => ih (k + 1) τ _ (by omega) hz z1 z2 z3 (fun p hp => ?_), fun w => absurd (by decide) w⟩
          rw [z4 p hp]
          by_cases y : p < 4 * k + 3 ∧ p % 4 < 3
          · rw [if_pos y, if_pos (by omega)]
          · rw [if_neg y, if_neg (by omega)]
        | succ m ih2 =>
          intro q τ hq hz z1 z2 z3 z4
          refine h333 _ _ _ ?_
          have g0 : wr (4 * (k : Int)) = ((4 * k : Nat) : Int) := by simp (disch := omega) only [wr_id]; omega
          have g1 : wr (((4 * k : Nat) : Int) + (q : Int)) = ((4 * k + q : Nat) : Int) := by simp (disch := omega) only [wr_id]; omega
          have g2 : wr (3 * (k : Int)) = ((3 * k : Nat) : Int) := by simp (disch := omega) only [wr_id]; omega
          have g3 : wr (((3 * k : Nat) : Int) + (q : Int)) = ((3 * k + q : Nat) : Int) := by simp (disch := omega) only [wr_id]; omega
          simp only [w_MO_text_333, c_ic, c_lc, c_nul, c_il, c_ll, c_al, c_is, c_ls, c_as, c_inc, c_b2, c_b2n, c_b1, c_d2, c_d2n, c_dsh, c_i2l, c_l2i, c_lcm, c_dup, c_dup2, c_pop, c_j1, c_j2, c_jn, c_sw0, c_sw, c_gI, c_gL, c_gR, c_gS, c_pI, c_pZ, c_pL, c_pR, c_iald, c_ialg, c_iast, c_iasg, c_bald, c_bast, c_lald, c_last, c_aald, c_aals, c_aast, c_alen, c_bnd, c_str, c_bndl, c_bnln, c_sval, c_scod, c_sbal, c_sbln, c_fmt, c_stop, c_iret, c_zret, c_nret, c_aret, c_vret, c_lret, c_cpy, c_callV, c_callS, tkA, lget, lput, lkill, jpush, vsz, jcat, lins, lent, List.length_cons, List.length_nil, List.replicate, List.append_nil, List.cons_append, List.nil_append, reduceIte, Nat.reduceAdd, Nat.reduceSub, Nat.reduceEqDiff, true_and, and_true, Nat.reduceLeDiff, Nat.lt_irrefl, Nat.succ_ne_self, forall_const, ne_eq, not_true_eq_false, not_false_eq_true, false_implies, implies_true, true_implies, true_or, or_true, or_false, false_or, eq_self, Int.reduceEq, Int.reduceLT, Int.reduceLE, Int.reduceNeg, Int.reduceToNat, Int.reduceAdd, Int.reduceSub, Int.reduceMul, Int.reduceNe, and_self, g0, g1, g2, g3, Int.toNat_natCast, l69, z2 (3 * k + q) (by omega), inc_nat (show q ≤ 100000 by omega)]
          refine ⟨fun w => absurd w (by omega), fun _ => ⟨⟨by omega, by omega⟩, by decide, ⟨by omega, by omega⟩, ?_⟩⟩
          refine ih2 (q + 1) (sI τ 69 0 (4 * k + q) (σ.1 64 1 (3 * k + q))) (by omega) (zst _ _ _ _ hz (by omega)) z1 z2 z3 (fun p hp => ?_)
          simp only [g_sI, true_and]
          by_cases y : p = 4 * k + q
          · rw [if_pos y, if_pos (by omega), show 3 * (p / 4) + p % 4 = 3 * k + q by omega]
          · rw [if_neg y, z4 p hp]
            by_cases y2 : p < 4 * k + q ∧ p % 4 < 3
            · rw [if_pos y2, if_pos (by omega)]
            · rw [if_neg y2, if_neg (by omega)]
      exact inn 3 0 τ rfl hz z1 z2 z3 z4
  -- the world's beginning
  have lp4 : ∀ (m i : Nat) (τ : jM) (x4 : Option jV), i + m = 291 → Z τ → (∀ o, o < 2 → τ.1 63 0 o = σ.1 64 0 o) → (∀ o, o < 12 → τ.1 65 0 o = σ.1 64 1 o) → (∀ o, o < 32 → τ.1 66 0 o = σ.1 64 2 o) → (∀ p, p < i → τ.1 69 0 p = 0) → At 300 [some (rf 10 0), some (.inl 0), some (.inl n), some (.inl i), x4] [] τ := by
    intro m
    induction m with
    | zero =>
      intro i τ x4 hi hz z1 z2 z3 z4
      refine h300 _ _ _ ?_
      obtain rfl : i = 291 := by omega
      simp only [w_MO_text_300, w_MO_text_320, c_ic, c_lc, c_nul, c_il, c_ll, c_al, c_is, c_ls, c_as, c_inc, c_b2, c_b2n, c_b1, c_d2, c_d2n, c_dsh, c_i2l, c_l2i, c_lcm, c_dup, c_dup2, c_pop, c_j1, c_j2, c_jn, c_sw0, c_sw, c_gI, c_gL, c_gR, c_gS, c_pI, c_pZ, c_pL, c_pR, c_iald, c_ialg, c_iast, c_iasg, c_bald, c_bast, c_lald, c_last, c_aald, c_aals, c_aast, c_alen, c_bnd, c_str, c_bndl, c_bnln, c_sval, c_scod, c_sbal, c_sbln, c_fmt, c_stop, c_iret, c_zret, c_nret, c_aret, c_vret, c_lret, c_cpy, c_callV, c_callS, tkA, lget, lput, lkill, jpush, vsz, jcat, lins, lent, List.length_cons, List.length_nil, List.replicate, List.append_nil, List.cons_append, List.nil_append, reduceIte, Nat.reduceAdd, Nat.reduceSub, Nat.reduceEqDiff, true_and, and_true, Nat.reduceLeDiff, Nat.lt_irrefl, Nat.succ_ne_self, forall_const, ne_eq, not_true_eq_false, not_false_eq_true, false_implies, implies_true, true_implies, true_or, or_true, or_false, false_or, eq_self, Int.reduceEq, Int.reduceLT, Int.reduceLE, Int.reduceNeg, Int.reduceToNat, Int.reduceAdd, Int.reduceSub, Int.reduceMul, Int.reduceNe, and_self]
      refine ⟨fun _ => lp5 K 0 τ _ (Nat.zero_add _) hz z1 z2 z3 (fun p hp => ?_), fun w => absurd (by decide) w⟩
      rw [if_neg (by omega)]
      exact z4 p hp
    | succ m ih =>
      intro i τ x4 hi hz z1 z2 z3 z4
      refine h300 _ _ _ ?_
      simp only [w_MO_text_300, c_ic, c_lc, c_nul, c_il, c_ll, c_al, c_is, c_ls, c_as, c_inc, c_b2, c_b2n, c_b1, c_d2, c_d2n, c_dsh, c_i2l, c_l2i, c_lcm, c_dup, c_dup2, c_pop, c_j1, c_j2, c_jn, c_sw0, c_sw, c_gI, c_gL, c_gR, c_gS, c_pI, c_pZ, c_pL, c_pR, c_iald, c_ialg, c_iast, c_iasg, c_bald, c_bast, c_lald, c_last, c_aald, c_aals, c_aast, c_alen, c_bnd, c_str, c_bndl, c_bnln, c_sval, c_scod, c_sbal, c_sbln, c_fmt, c_stop, c_iret, c_zret, c_nret, c_aret, c_vret, c_lret, c_cpy, c_callV, c_callS, tkA, lget, lput, lkill, jpush, vsz, jcat, lins, lent, List.length_cons, List.length_nil, List.replicate, List.append_nil, List.cons_append, List.nil_append, reduceIte, Nat.reduceAdd, Nat.reduceSub, Nat.reduceEqDiff, true_and, and_true, Nat.reduceLeDiff, Nat.lt_irrefl, Nat.succ_ne_self, forall_const, ne_eq, not_true_eq_false, not_false_eq_true, false_implies, implies_true, true_implies, true_or, or_true, or_false, false_or, eq_self, Int.reduceEq, Int.reduceLT, Int.reduceLE, Int.reduceNeg, Int.reduceToNat, Int.reduceAdd, Int.reduceSub, Int.reduceMul, Int.reduceNe, and_self, Int.toNat_natCast, l69, inc_nat (show i ≤ 100000 by omega)]
      refine ⟨fun w => absurd w (by omega), fun _ => ⟨by decide, ⟨by omega, by omega⟩, ?_⟩⟩
      refine ih (i + 1) (sI τ 69 0 i 0) _ (by omega) (zst _ _ _ _ hz (by omega)) z1 z2 z3 (fun p hp => ?_)
      simp only [g_sI, true_and]
      by_cases y : p = i
      · rw [if_pos y]
      · rw [if_neg y]; exact z4 p (by omega)
  have lp3 : ∀ (m i : Nat) (τ : jM) (x4 : Option jV), i + m = 32 → Z τ → (∀ o, o < 2 → τ.1 63 0 o = σ.1 64 0 o) → (∀ o, o < 12 → τ.1 65 0 o = σ.1 64 1 o) → (∀ o, o < i → τ.1 66 0 o = σ.1 64 2 o) → At 274 [some (rf 10 0), some (.inl 0), some (.inl n), some (.inl i), x4] [] τ := by
    intro m
    induction m with
    | zero =>
      intro i τ x4 hi hz z1 z2 z3
      refine h274 _ _ _ ?_
      obtain rfl : i = 32 := by omega
      simp only [w_MO_text_274, w_MO_text_298, c_ic, c_lc, c_nul, c_il, c_ll, c_al, c_is, c_ls, c_as, c_inc, c_b2, c_b2n, c_b1, c_d2, c_d2n, c_dsh, c_i2l, c_l2i, c_lcm, c_dup, c_dup2, c_pop, c_j1, c_j2, c_jn, c_sw0, c_sw, c_gI, c_gL, c_gR, c_gS, c_pI, c_pZ, c_pL, c_pR, c_iald, c_ialg, c_iast, c_iasg, c_bald, c_bast, c_lald, c_last, c_aald, c_aals, c_aast, c_alen, c_bnd, c_str, c_bndl, c_bnln, c_sval, c_scod, c_sbal, c_sbln, c_fmt, c_stop, c_iret, c_zret, c_nret, c_aret, c_vret, c_lret, c_cpy, c_callV, c_callS, tkA, lget, lput, lkill, jpush, vsz, jcat, lins, lent, List.length_cons, List.length_nil, List.replicate, List.append_nil, List.cons_append, List.nil_append, reduceIte, Nat.reduceAdd, Nat.reduceSub, Nat.reduceEqDiff, true_and, and_true, Nat.reduceLeDiff, Nat.lt_irrefl, Nat.succ_ne_self, forall_const, ne_eq, not_true_eq_false, not_false_eq_true, false_implies, implies_true, true_implies, true_or, or_true, or_false, false_or, eq_self, Int.reduceEq, Int.reduceLT, Int.reduceLE, Int.reduceNeg, Int.reduceToNat, Int.reduceAdd, Int.reduceSub, Int.reduceMul, Int.reduceNe, and_self]
      exact ⟨fun _ => lp4 291 0 τ _ rfl hz z1 z2 z3 (fun p hp => absurd hp (by omega)), fun w => absurd (by decide) w⟩
    | succ m ih =>
      intro i τ x4 hi hz z1 z2 z3
      refine h274 _ _ _ ?_
      simp only [w_MO_text_274, c_ic, c_lc, c_nul, c_il, c_ll, c_al, c_is, c_ls, c_as, c_inc, c_b2, c_b2n, c_b1, c_d2, c_d2n, c_dsh, c_i2l, c_l2i, c_lcm, c_dup, c_dup2, c_pop, c_j1, c_j2, c_jn, c_sw0, c_sw, c_gI, c_gL, c_gR, c_gS, c_pI, c_pZ, c_pL, c_pR, c_iald, c_ialg, c_iast, c_iasg, c_bald, c_bast, c_lald, c_last, c_aald, c_aals, c_aast, c_alen, c_bnd, c_str, c_bndl, c_bnln, c_sval, c_scod, c_sbal, c_sbln, c_fmt, c_stop, c_iret, c_zret, c_nret, c_aret, c_vret, c_lret, c_cpy, c_callV, c_callS, tkA, lget, lput, lkill, jpush, vsz, jcat, lins, lent, List.length_cons, List.length_nil, List.replicate, List.append_nil, List.cons_append, List.nil_append, reduceIte, Nat.reduceAdd, Nat.reduceSub, Nat.reduceEqDiff, true_and, and_true, Nat.reduceLeDiff, Nat.lt_irrefl, Nat.succ_ne_self, forall_const, ne_eq, not_true_eq_false, not_false_eq_true, false_implies, implies_true, true_implies, true_or, or_true, or_false, false_or, eq_self, Int.reduceEq, Int.reduceLT, Int.reduceLE, Int.reduceNeg, Int.reduceToNat, Int.reduceAdd, Int.reduceSub, Int.reduceMul, Int.reduceNe, and_self, Int.toNat_natCast, l642, inc_nat (show i ≤ 100000 by omega)]
      refine ⟨fun w => absurd w (by omega), fun _ => ⟨by decide, ⟨by omega, by omega⟩, ⟨by omega, by omega⟩, ?_⟩⟩
      refine ih (i + 1) (sI τ 66 0 i (τ.1 64 2 i)) _ (by omega) (zst _ _ _ _ hz (by omega)) z1 z2 (fun p hp => ?_)
      simp only [g_sI, true_and]
      by_cases y : p = i
      · rw [if_pos y, y]; exact j64 τ hz.1 2 i
      · rw [if_neg y]; exact z3 p (by omega)
  have lp2 : ∀ (m i : Nat) (τ : jM) (x4 : Option jV), i + m = 12 → Z τ → (∀ o, o < 2 → τ.1 63 0 o = σ.1 64 0 o) → (∀ o, o < i → τ.1 65 0 o = σ.1 64 1 o) → At 248 [some (rf 10 0), some (.inl 0), some (.inl n), some (.inl i), x4] [] τ := by
    intro m
    induction m with
    | zero =>
      intro i τ x4 hi hz z1 z2
      refine h248 _ _ _ ?_
      obtain rfl : i = 12 := by omega
      simp only [w_MO_text_248, w_MO_text_272, c_ic, c_lc, c_nul, c_il, c_ll, c_al, c_is, c_ls, c_as, c_inc, c_b2, c_b2n, c_b1, c_d2, c_d2n, c_dsh, c_i2l, c_l2i, c_lcm, c_dup, c_dup2, c_pop, c_j1, c_j2, c_jn, c_sw0, c_sw, c_gI, c_gL, c_gR, c_gS, c_pI, c_pZ, c_pL, c_pR, c_iald, c_ialg, c_iast, c_iasg, c_bald, c_bast, c_lald, c_last, c_aald, c_aals, c_aast, c_alen, c_bnd, c_str, c_bndl, c_bnln, c_sval, c_scod, c_sbal, c_sbln, c_fmt, c_stop, c_iret, c_zret, c_nret, c_aret, c_vret, c_lret, c_cpy, c_callV, c_callS, tkA, lget, lput, lkill, jpush, vsz, jcat, lins, lent, List.length_cons, List.length_nil, List.replicate, List.append_nil, List.cons_append, List.nil_append, reduceIte, Nat.reduceAdd, Nat.reduceSub, Nat.reduceEqDiff, true_and, and_true, Nat.reduceLeDiff, Nat.lt_irrefl, Nat.succ_ne_self, forall_const, ne_eq, not_true_eq_false, not_false_eq_true, false_implies, implies_true, true_implies, true_or, or_true, or_false, false_or, eq_self, Int.reduceEq, Int.reduceLT, Int.reduceLE, Int.reduceNeg, Int.reduceToNat, Int.reduceAdd, Int.reduceSub, Int.reduceMul, Int.reduceNe, and_self]
      exact ⟨fun _ => lp3 32 0 τ _ rfl hz z1 z2 (fun p hp => absurd hp (by omega)), fun w => absurd (by decide) w⟩
    | succ m ih =>
      intro i τ x4 hi hz z1 z2
      refine h248 _ _ _ ?_
      simp only [w_MO_text_248, c_ic, c_lc, c_nul, c_il, c_ll, c_al, c_is, c_ls, c_as, c_inc, c_b2, c_b2n, c_b1, c_d2, c_d2n, c_dsh, c_i2l, c_l2i, c_lcm, c_dup, c_dup2, c_pop, c_j1, c_j2, c_jn, c_sw0, c_sw, c_gI, c_gL, c_gR, c_gS, c_pI, c_pZ, c_pL, c_pR, c_iald, c_ialg, c_iast, c_iasg, c_bald, c_bast, c_lald, c_last, c_aald, c_aals, c_aast, c_alen, c_bnd, c_str, c_bndl, c_bnln, c_sval, c_scod, c_sbal, c_sbln, c_fmt, c_stop, c_iret, c_zret, c_nret, c_aret, c_vret, c_lret, c_cpy, c_callV, c_callS, tkA, lget, lput, lkill, jpush, vsz, jcat, lins, lent, List.length_cons, List.length_nil, List.replicate, List.append_nil, List.cons_append, List.nil_append, reduceIte, Nat.reduceAdd, Nat.reduceSub, Nat.reduceEqDiff, true_and, and_true, Nat.reduceLeDiff, Nat.lt_irrefl, Nat.succ_ne_self, forall_const, ne_eq, not_true_eq_false, not_false_eq_true, false_implies, implies_true, true_implies, true_or, or_true, or_false, false_or, eq_self, Int.reduceEq, Int.reduceLT, Int.reduceLE, Int.reduceNeg, Int.reduceToNat, Int.reduceAdd, Int.reduceSub, Int.reduceMul, Int.reduceNe, and_self, Int.toNat_natCast, l641, inc_nat (show i ≤ 100000 by omega)]
      refine ⟨fun w => absurd w (by omega), fun _ => ⟨by decide, ⟨by omega, by omega⟩, ⟨by omega, by omega⟩, ?_⟩⟩
      refine ih (i + 1) (sI τ 65 0 i (τ.1 64 1 i)) _ (by omega) (zst _ _ _ _ hz (by omega)) z1 (fun p hp => ?_)
      simp only [g_sI, true_and]
      by_cases y : p = i
      · rw [if_pos y, y]; exact j64 τ hz.1 1 i
      · rw [if_neg y]; exact z2 p (by omega)
  have lp1 : ∀ (m i : Nat) (τ : jM) (x4 : Option jV), i + m = 2 → Z τ → (∀ o, o < i → τ.1 63 0 o = σ.1 64 0 o) → At 223 [some (rf 10 0), some (.inl 0), some (.inl n), some (.inl i), x4] [] τ := by
    intro m
    induction m with
    | zero =>
      intro i τ x4 hi hz z1
      refine h223 _ _ _ ?_
      obtain rfl : i = 2 := by omega
      simp only [w_MO_text_223, w_MO_text_246, c_ic, c_lc, c_nul, c_il, c_ll, c_al, c_is, c_ls, c_as, c_inc, c_b2, c_b2n, c_b1, c_d2, c_d2n, c_dsh, c_i2l, c_l2i, c_lcm, c_dup, c_dup2, c_pop, c_j1, c_j2, c_jn, c_sw0, c_sw, c_gI, c_gL, c_gR, c_gS, c_pI, c_pZ, c_pL, c_pR, c_iald, c_ialg, c_iast, c_iasg, c_bald, c_bast, c_lald, c_last, c_aald, c_aals, c_aast, c_alen, c_bnd, c_str, c_bndl, c_bnln, c_sval, c_scod, c_sbal, c_sbln, c_fmt, c_stop, c_iret, c_zret, c_nret, c_aret, c_vret, c_lret, c_cpy, c_callV, c_callS, tkA, lget, lput, lkill, jpush, vsz, jcat, lins, lent, List.length_cons, List.length_nil, List.replicate, List.append_nil, List.cons_append, List.nil_append, reduceIte, Nat.reduceAdd, Nat.reduceSub, Nat.reduceEqDiff, true_and, and_true, Nat.reduceLeDiff, Nat.lt_irrefl, Nat.succ_ne_self, forall_const, ne_eq, not_true_eq_false, not_false_eq_true, false_implies, implies_true, true_implies, true_or, or_true, or_false, false_or, eq_self, Int.reduceEq, Int.reduceLT, Int.reduceLE, Int.reduceNeg, Int.reduceToNat, Int.reduceAdd, Int.reduceSub, Int.reduceMul, Int.reduceNe, and_self]
      exact ⟨fun _ => lp2 12 0 τ _ rfl hz z1 (fun p hp => absurd hp (by omega)), fun w => absurd (by decide) w⟩
    | succ m ih =>
      intro i τ x4 hi hz z1
      refine h223 _ _ _ ?_
      simp only [w_MO_text_223, c_ic, c_lc, c_nul, c_il, c_ll, c_al, c_is, c_ls, c_as, c_inc, c_b2, c_b2n, c_b1, c_d2, c_d2n, c_dsh, c_i2l, c_l2i, c_lcm, c_dup, c_dup2, c_pop, c_j1, c_j2, c_jn, c_sw0, c_sw, c_gI, c_gL, c_gR, c_gS, c_pI, c_pZ, c_pL, c_pR, c_iald, c_ialg, c_iast, c_iasg, c_bald, c_bast, c_lald, c_last, c_aald, c_aals, c_aast, c_alen, c_bnd, c_str, c_bndl, c_bnln, c_sval, c_scod, c_sbal, c_sbln, c_fmt, c_stop, c_iret, c_zret, c_nret, c_aret, c_vret, c_lret, c_cpy, c_callV, c_callS, tkA, lget, lput, lkill, jpush, vsz, jcat, lins, lent, List.length_cons, List.length_nil, List.replicate, List.append_nil, List.cons_append, List.nil_append, reduceIte, Nat.reduceAdd, Nat.reduceSub, Nat.reduceEqDiff, true_and, and_true, Nat.reduceLeDiff, Nat.lt_irrefl, Nat.succ_ne_self, forall_const, ne_eq, not_true_eq_false, not_false_eq_true, false_implies, implies_true, true_implies, true_or, or_true, or_false, false_or, eq_self, Int.reduceEq, Int.reduceLT, Int.reduceLE, Int.reduceNeg, Int.reduceToNat, Int.reduceAdd, Int.reduceSub, Int.reduceMul, Int.reduceNe, and_self, Int.toNat_natCast, l640, inc_nat (show i ≤ 100000 by omega)]
      refine ⟨fun w => absurd w (by omega), fun _ => ⟨by decide, ⟨by omega, by omega⟩, ⟨by omega, by omega⟩, ?_⟩⟩
      refine ih (i + 1) (sI τ 63 0 i (τ.1 64 0 i)) _ (by omega) (zst _ _ _ _ hz (by omega)) (fun p hp => ?_)
      simp only [g_sI, true_and]
      by_cases y : p = i
      · rw [if_pos y, y]; exact j64 τ hz.1 0 i
      · rw [if_neg y]; exact z1 p (by omega)
  have c29 : ∀ v, (sI σ 10 0 26 v).1 10 0 29 = F := fun v => hf
  simp only [w_MO_text_205, c_ic, c_lc, c_nul, c_il, c_ll, c_al, c_is, c_ls, c_as, c_inc, c_b2, c_b2n, c_b1, c_d2, c_d2n, c_dsh, c_i2l, c_l2i, c_lcm, c_dup, c_dup2, c_pop, c_j1, c_j2, c_jn, c_sw0, c_sw, c_gI, c_gL, c_gR, c_gS, c_pI, c_pZ, c_pL, c_pR, c_iald, c_ialg, c_iast, c_iasg, c_bald, c_bast, c_lald, c_last, c_aald, c_aals, c_aast, c_alen, c_bnd, c_str, c_bndl, c_bnln, c_sval, c_scod, c_sbal, c_sbln, c_fmt, c_stop, c_iret, c_zret, c_nret, c_aret, c_vret, c_lret, c_cpy, c_callV, c_callS, tkA, lget, lput, lkill, jpush, vsz, jcat, lins, lent, List.length_cons, List.length_nil, List.replicate, List.append_nil, List.cons_append, List.nil_append, reduceIte, Nat.reduceAdd, Nat.reduceSub, Nat.reduceEqDiff, true_and, and_true, Nat.reduceLeDiff, Nat.lt_irrefl, Nat.succ_ne_self, forall_const, ne_eq, not_true_eq_false, not_false_eq_true, false_implies, implies_true, true_implies, true_or, or_true, or_false, false_or, eq_self, Int.reduceEq, Int.reduceLT, Int.reduceLE, Int.reduceNeg, Int.reduceToNat, Int.reduceAdd, Int.reduceSub, Int.reduceMul, Int.reduceNe, and_self, hk, c29]
  exact lp1 2 0 (sI (sI σ 10 0 26 K) 10 0 27 F) _ rfl ⟨(Fr.rf.sI (by unfold Stx; omega)).sI (by unfold Stx; omega), rfl, rfl⟩ (fun o ho => absurd ho (by omega))
end TX0
