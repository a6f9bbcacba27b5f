/-! ===== 9e the model's codes; pairs: biases, truths ===== -/
section CO
variable {σ : jM} {Φ : jPh} {d K F : Nat} {nt : List jN}
theorem ok_MO_codes (hk : σ.1 10 0 26 = K) (hK : K ≤ 4) (h : Φ (some (.inl (10 ^ K : Nat))) σ) : Ct (d + 1) M_MO_codes [rf 10 0] σ Φ := by
  refine i_MO_codes (Nat.le_add_right 1 2) (fun At h4 => ?_)
  have key : ∀ (m i : Nat), i + m = K → At 4 [some (rf 10 0), some (.inl (10 ^ i : Nat)), some (.inl i)] [] σ := by
    intro m
    induction m with
    | zero =>
      intro i hi
      refine h4 _ _ _ ?_
      simp only [w_MO_codes_23, w_MO_codes_4, w_MO_codes_0, c_ic, c_lc, c_nul, c_il, c_ll, c_al, c_is, c_ls, c_as, c_inc, c_b2, c_b2n, c_b1, c_d2, c_d2n, c_dsh, c_i2l, c_l2i, c_lcm, c_dup, c_dup2, c_pop, c_j1, c_j2, c_jn, c_sw0, c_sw, c_gI, c_gL, c_gR, c_gS, c_pI, c_pZ, c_pL, c_pR, c_iald, c_ialg, c_iast, c_iasg, c_bald, c_bast, c_lald, c_last, c_aald, c_aals, c_aast, c_alen, c_bnd, c_str, c_bndl, c_bnln, c_sval, c_scod, c_sbal, c_sbln, c_fmt, c_stop, c_iret, c_zret, c_nret, c_aret, c_vret, c_lret, c_cpy, c_callV, c_callS, tkA, lget, lput, lkill, jpush, vsz, jcat, lins, lent, List.length_cons, List.length_nil, List.replicate, List.append_nil, List.cons_append, List.nil_append, reduceIte, Nat.reduceAdd, Nat.reduceSub, Nat.reduceEqDiff, true_and, and_true, Nat.reduceLeDiff, Nat.lt_irrefl, Nat.succ_ne_self, forall_const, ne_eq, not_true_eq_false, not_false_eq_true, false_implies, implies_true, true_implies, true_or, or_true, or_false, false_or, eq_self, Int.reduceEq, Int.reduceLT, Int.reduceLE, Int.reduceNeg, Int.reduceToNat, Int.reduceAdd, Int.reduceSub, Int.reduceMul, Int.reduceNe, and_self, hk]
      refine ⟨fun _ => ?_, fun w => absurd w (by omega)⟩
      rw [show i = K by omega]
      exact h
    | succ m ih =>
      intro i hi
      refine h4 _ _ _ ?_
      have hp : 10 ^ i ≤ 10 ^ 3 := Nat.pow_le_pow_right (by decide) (by omega)
      have e : wr (((10 ^ i : Nat) : Int) * 10) = ((10 ^ (i + 1) : Nat) : Int) := by
        rw [Nat.pow_succ]
        generalize 10 ^ i = y at *
        rw [wr_id (by omega) (by omega)]
        omega
      simp only [w_MO_codes_23, w_MO_codes_4, w_MO_codes_0, c_ic, c_lc, c_nul, c_il, c_ll, c_al, c_is, c_ls, c_as, c_inc, c_b2, c_b2n, c_b1, c_d2, c_d2n, c_dsh, c_i2l, c_l2i, c_lcm, c_dup, c_dup2, c_pop, c_j1, c_j2, c_jn, c_sw0, c_sw, c_gI, c_gL, c_gR, c_gS, c_pI, c_pZ, c_pL, c_pR, c_iald, c_ialg, c_iast, c_iasg, c_bald, c_bast, c_lald, c_last, c_aald, c_aals, c_aast, c_alen, c_bnd, c_str, c_bndl, c_bnln, c_sval, c_scod, c_sbal, c_sbln, c_fmt, c_stop, c_iret, c_zret, c_nret, c_aret, c_vret, c_lret, c_cpy, c_callV, c_callS, tkA, lget, lput, lkill, jpush, vsz, jcat, lins, lent, List.length_cons, List.length_nil, List.replicate, List.append_nil, List.cons_append, List.nil_append, reduceIte, Nat.reduceAdd, Nat.reduceSub, Nat.reduceEqDiff, true_and, and_true, Nat.reduceLeDiff, Nat.lt_irrefl, Nat.succ_ne_self, forall_const, ne_eq, not_true_eq_false, not_false_eq_true, false_implies, implies_true, true_implies, true_or, or_true, or_false, false_or, eq_self, Int.reduceEq, Int.reduceLT, Int.reduceLE, Int.reduceNeg, Int.reduceToNat, Int.reduceAdd, Int.reduceSub, Int.reduceMul, Int.reduceNe, and_self, hk, e, inc_nat (show i ≤ 100000 by omega)]
      exact ⟨fun w => absurd w (by omega), fun _ => ih (i + 1) (by omega)⟩
  simp only [w_MO_codes_0, c_ic, c_lc, c_nul, c_il, c_ll, c_al, c_is, c_ls, c_as, c_inc, c_b2, c_b2n, c_b1, c_d2, c_d2n, c_dsh, c_i2l, c_l2i, c_lcm, c_dup, c_dup2, c_pop, c_j1, c_j2, c_jn, c_sw0, c_sw, c_gI, c_gL, c_gR, c_gS, c_pI, c_pZ, c_pL, c_pR, c_iald, c_ialg, c_iast, c_iasg, c_bald, c_bast, c_lald, c_last, c_aald, c_aals, c_aast, c_alen, c_bnd, c_str, c_bndl, c_bnln, c_sval, c_scod, c_sbal, c_sbln, c_fmt, c_stop, c_iret, c_zret, c_nret, c_aret, c_vret, c_lret, c_cpy, c_callV, c_callS, tkA, lget, lput, lkill, jpush, vsz, jcat, lins, lent, List.length_cons, List.length_nil, List.replicate, List.append_nil, List.cons_append, List.nil_append, reduceIte, Nat.reduceAdd, Nat.reduceSub, Nat.reduceEqDiff, true_and, and_true, Nat.reduceLeDiff, Nat.lt_irrefl, Nat.succ_ne_self, forall_const, ne_eq, not_true_eq_false, not_false_eq_true, false_implies, implies_true, true_implies, true_or, or_true, or_false, false_or, eq_self, Int.reduceEq, Int.reduceLT, Int.reduceLE, Int.reduceNeg, Int.reduceToNat, Int.reduceAdd, Int.reduceSub, Int.reduceMul, Int.reduceNe, and_self]
  exact key K 0 (Nat.zero_add _)
def Sfa : jS := fun k j _ => (k = 74 ∨ k = 75) ∧ j = 0
theorem Sfa.c {k j o : Nat} (h : Sfa k j o) : Sc k j o := by unfold Sfa at h; unfold Sc; omega
/-- the beginning of a note's turn -/
theorem fa1 {k t1 : jWp} {i n f w b v x1 x2 : Int} {x4 x5 : Option jV} (h44 : σ.1 10 0 44 = n) (hi : 0 ≤ i ∧ i < n) (hn : n ≤ 10) (e1 : σ.1 73 0 (3 * i.toNat + 1) = f) (e2 : σ.1 73 0 (3 * i.toNat + 2) = v) (e3 : σ.1 73 0 (3 * i.toNat) = w) (hw : 0 ≤ w ∧ w < 4) (e4 : σ.1 75 0 w.toNat = b) (h : k [some (rf 10 0), some (.inl x1), some (.inl x2), some (.inl i), some (.inl f), some (.inl (wr (v - b)))] [] σ) :
    (c_il 3 (c_al 0 (c_gI 10 44 (c_j2 (fun x y => y ≤ x) t1 (c_al 0 (c_gS 10 73 (fun j => j) (c_ic 3 (c_il 3 (c_b2 (fun x y => wr (x * y)) (c_ic 1 (c_b2 (fun x y => wr (x + y)) (c_iald 73 30 (c_is 4 (c_al 0 (c_gS 10 73 (fun j => j) (c_ic 3 (c_il 3 (c_b2 (fun x y => wr (x * y)) (c_ic 2 (c_b2 (fun x y => wr (x + y)) (c_iald 73 30 (c_al 0 (c_gS 10 75 (fun j => j) (c_al 0 (c_gS 10 73 (fun j => j) (c_ic 3 (c_il 3 (c_b2 (fun x y => wr (x * y)) (c_iald 73 30 (c_iald 75 4 (c_b2 (fun x y => wr (x - y)) (c_is 5 k)))))))))))))))))))))))))))))))) [some (rf 10 0), some (.inl x1), some (.inl x2), some (.inl i), x4, x5] [] σ := by
  obtain ⟨i, rfl⟩ := Int.eq_ofNat_of_zero_le hi.1
  have g0 : wr (3 * (i : Int)) = ((3 * i : Nat) : Int) := by simp (disch := omega) only [wr_id]; omega
  have g1 : wr (((3 * i : Nat) : Int) + 1) = ((3 * i + 1 : Nat) : Int) := by simp (disch := omega) only [wr_id]; omega
  have g2 : wr (((3 * i : Nat) : Int) + 2) = ((3 * i + 2 : Nat) : Int) := by simp (disch := omega) only [wr_id]; omega
  rw [Int.toNat_natCast] at e1 e2 e3
  simp only [c_ic, c_lc, c_nul, c_il, c_ll, c_al, c_is, c_ls, c_as, c_inc, c_b2, c_b2n, c_b1, c_d2, c_d2n, c_dsh, c_i2l, c_l2i, c_lcm, c_dup, c_dup2, c_pop, c_j1, c_j2, c_jn, c_sw0, c_sw, c_gI, c_gL, c_gR, c_gS, c_pI, c_pZ, c_pL, c_pR, c_iald, c_ialg, c_iast, c_iasg, c_bald, c_bast, c_lald, c_last, c_aald, c_aals, c_aast, c_alen, c_bnd, c_str, c_bndl, c_bnln, c_sval, c_scod, c_sbal, c_sbln, c_fmt, c_stop, c_iret, c_zret, c_nret, c_aret, c_vret, c_lret, c_cpy, c_callV, c_callS, tkA, lget, lput, lkill, jpush, vsz, jcat, lins, lent, List.length_cons, List.length_nil, List.replicate, List.append_nil, List.cons_append, List.nil_append, reduceIte, Nat.reduceAdd, Nat.reduceSub, Nat.reduceEqDiff, true_and, and_true, Nat.reduceLeDiff, Nat.lt_irrefl, Nat.succ_ne_self, forall_const, ne_eq, not_true_eq_false, not_false_eq_true, false_implies, implies_true, true_implies, true_or, or_true, or_false, false_or, eq_self, Int.reduceEq, Int.reduceLT, Int.reduceLE, Int.reduceNeg, Int.reduceToNat, Int.reduceAdd, Int.reduceSub, Int.reduceMul, Int.reduceNe, and_self, h44, g0, g1, g2, Int.toNat_natCast, e1, e2, e3, e4]
  exact ⟨fun w => absurd w (by omega), fun _ => ⟨⟨by omega, by omega⟩, ⟨by omega, by omega⟩, ⟨by omega, by omega⟩, hw, h⟩⟩
theorem fa0 {k t1 : jWp} {i n x1 x2 : Int} {x4 x5 : Option jV} (h44 : σ.1 10 0 44 = n) (hi : n ≤ i) (h : t1 [some (rf 10 0), some (.inl x1), some (.inl x2), some (.inl i), x4, x5] [] σ) : (c_il 3 (c_al 0 (c_gI 10 44 (c_j2 (fun x y => y ≤ x) t1 k)))) [some (rf 10 0), some (.inl x1), some (.inl x2), some (.inl i), x4, x5] [] σ := by
  simp only [c_ic, c_lc, c_nul, c_il, c_ll, c_al, c_is, c_ls, c_as, c_inc, c_b2, c_b2n, c_b1, c_d2, c_d2n, c_dsh, c_i2l, c_l2i, c_lcm, c_dup, c_dup2, c_pop, c_j1, c_j2, c_jn, c_sw0, c_sw, c_gI, c_gL, c_gR, c_gS, c_pI, c_pZ, c_pL, c_pR, c_iald, c_ialg, c_iast, c_iasg, c_bald, c_bast, c_lald, c_last, c_aald, c_aals, c_aast, c_alen, c_bnd, c_str, c_bndl, c_bnln, c_sval, c_scod, c_sbal, c_sbln, c_fmt, c_stop, c_iret, c_zret, c_nret, c_aret, c_vret, c_lret, c_cpy, c_callV, c_callS, tkA, lget, lput, lkill, jpush, vsz, jcat, lins, lent, List.length_cons, List.length_nil, List.replicate, List.append_nil, List.cons_append, List.nil_append, reduceIte, Nat.reduceAdd, Nat.reduceSub, Nat.reduceEqDiff, true_and, and_true, Nat.reduceLeDiff, Nat.lt_irrefl, Nat.succ_ne_self, forall_const, ne_eq, not_true_eq_false, not_false_eq_true, false_implies, implies_true, true_implies, true_or, or_true, or_false, false_or, eq_self, Int.reduceEq, Int.reduceLT, Int.reduceLE, Int.reduceNeg, Int.reduceToNat, Int.reduceAdd, Int.reduceSub, Int.reduceMul, Int.reduceNe, and_self, h44]
  exact ⟨fun _ => h, fun w => absurd hi w⟩
theorem ok_MO_fitsAll {c : Nat} (hk : σ.1 10 0 26 = K) (hf : σ.1 10 0 27 = F) (hK : K ≤ 4) (hF : F ≤ 8) (hn : MN σ nt) (hl : NOK nt) (hq : ∀ q ∈ nt, q.1 < K ∧ q.2.1 < F) (hc : c < 10000) (h : match mfS nt (dg c) with | none => ∀ τ, Fr Sfa σ τ → Φ (some (.inl 0)) τ | some t => ∀ τ, Fr Sfa σ τ → (∀ k, k < K → τ.1 75 0 k = dg c k) → (∀ f, f < F → τ.1 74 0 f = t f) → Φ (some (.inl 1)) τ) : Ct (d + 2) M_MO_fitsAll [rf 10 0, .inl c] σ Φ := by
  have n10 := hl.1
  refine i_MO_fitsAll (Nat.le_add_right 2 4) (fun At h4 h35 h58 => ?_)
  -- the notes
  have key3 : ∀ (m i : Nat) (τ : jM) (t : Nat → Int) (x2 : Int) (x4 x5 : Option jV), i + m = nt.length → Fr Sfa σ τ → (∀ k, k < K → τ.1 75 0 k = dg c k) → (∀ f, f < F → τ.1 74 0 f = t f) → (match mf1 (dg c) (nt.drop i) t with | none => ∀ τ, Fr Sfa σ τ → Φ (some (.inl 0)) τ | some t => ∀ τ, Fr Sfa σ τ → (∀ k, k < K → τ.1 75 0 k = dg c k) → (∀ f, f < F → τ.1 74 0 f = t f) → Φ (some (.inl 1)) τ) → At 58 [some (rf 10 0), some (.inl c), some (.inl x2), some (.inl i), x4, x5] [] τ := by
    intro m
    induction m with
    | zero =>
      intro i τ t x2 x4 x5 hi t1 t2 t3 hh
      refine h58 _ _ _ ?_
      have c44 : τ.1 10 0 44 = nt.length := by rw [t1.i (by unfold Sfa; omega)]; exact hn.1
      rw [show i = nt.length by omega, List.drop_length] at hh
      unfold w_MO_fitsAll_58
      refine fa0 c44 (by omega) ?_
      simp only [w_MO_fitsAll_157, c_ic, c_lc, c_nul, c_il, c_ll, c_al, c_is, c_ls, c_as, c_inc, c_b2, c_b2n, c_b1, c_d2, c_d2n, c_dsh, c_i2l, c_l2i, c_lcm, c_dup, c_dup2, c_pop, c_j1, c_j2, c_jn, c_sw0, c_sw, c_gI, c_gL, c_gR, c_gS, c_pI, c_pZ, c_pL, c_pR, c_iald, c_ialg, c_iast, c_iasg, c_bald, c_bast, c_lald, c_last, c_aald, c_aals, c_aast, c_alen, c_bnd, c_str, c_bndl, c_bnln, c_sval, c_scod, c_sbal, c_sbln, c_fmt, c_stop, c_iret, c_zret, c_nret, c_aret, c_vret, c_lret, c_cpy, c_callV, c_callS, tkA, lget, lput, lkill, jpush, vsz, jcat, lins, lent, List.length_cons, List.length_nil, List.replicate, List.append_nil, List.cons_append, List.nil_append, reduceIte, Nat.reduceAdd, Nat.reduceSub, Nat.reduceEqDiff, true_and, and_true, Nat.reduceLeDiff, Nat.lt_irrefl, Nat.succ_ne_self, forall_const, ne_eq, not_true_eq_false, not_false_eq_true, false_implies, implies_true, true_implies, true_or, or_true, or_false, false_or, eq_self, Int.reduceEq, Int.reduceLT, Int.reduceLE, Int.reduceNeg, Int.reduceToNat, Int.reduceAdd, Int.reduceSub, Int.reduceMul, Int.reduceNe, and_self]
      exact hh τ t1 t2 t3
    | succ m ih =>
      intro i τ t x2 x4 x5 hi t1 t2 t3 hh
      refine h58 _ _ _ ?_
      have hi2 : i < nt.length := by omega
      have c44 : τ.1 10 0 44 = nt.length := by rw [t1.i (by unfold Sfa; omega)]; exact hn.1
      obtain ⟨m1, m2, m3⟩ := hn.2 i hi2
      have hm := getD_mem hi2
      obtain ⟨r1, r2, r3⟩ := hl.2 _ hm
      obtain ⟨r4, r5⟩ := hq _ hm
      rw [drop_cons hi2] at hh
      generalize nt.getD i (0, 0, 0) = q at *
      obtain ⟨w, f, v⟩ := q
      simp only at m1 m2 m3 r1 r2 r3 r4 r5
      have n73 : ∀ o, τ.1 73 0 o = σ.1 73 0 o := fun o => t1.i (by unfold Sfa; omega)
      have db := dg_in c w
      unfold w_MO_fitsAll_58
      refine fa1 (n := nt.length) (f := f) (w := w) (b := dg c w) (v := v) c44 ⟨by omega, by omega⟩ (by omega) (by rw [n73, Int.toNat_natCast]; exact m2) (by rw [n73, Int.toNat_natCast]; exact m3) (by rw [n73, Int.toNat_natCast]; exact m1) ⟨by omega, by omega⟩ (by rw [Int.toNat_natCast]; exact t2 w r4) ?_
      rw [wr_id (by omega) (by omega)]
      simp only [c_ic, c_lc, c_nul, c_il, c_ll, c_al, c_is, c_ls, c_as, c_inc, c_b2, c_b2n, c_b1, c_d2, c_d2n, c_dsh, c_i2l, c_l2i, c_lcm, c_dup, c_dup2, c_pop, c_j1, c_j2, c_jn, c_sw0, c_sw, c_gI, c_gL, c_gR, c_gS, c_pI, c_pZ, c_pL, c_pR, c_iald, c_ialg, c_iast, c_iasg, c_bald, c_bast, c_lald, c_last, c_aald, c_aals, c_aast, c_alen, c_bnd, c_str, c_bndl, c_bnln, c_sval, c_scod, c_sbal, c_sbln, c_fmt, c_stop, c_iret, c_zret, c_nret, c_aret, c_vret, c_lret, c_cpy, c_callV, c_callS, tkA, lget, lput, lkill, jpush, vsz, jcat, lins, lent, List.length_cons, List.length_nil, List.replicate, List.append_nil, List.cons_append, List.nil_append, reduceIte, Nat.reduceAdd, Nat.reduceSub, Nat.reduceEqDiff, true_and, and_true, Nat.reduceLeDiff, Nat.lt_irrefl, Nat.succ_ne_self, forall_const, ne_eq, not_true_eq_false, not_false_eq_true, false_implies, implies_true, true_implies, true_or, or_true, or_false, false_or, eq_self, Int.reduceEq, Int.reduceLT, Int.reduceLE, Int.reduceNeg, Int.reduceToNat, Int.reduceAdd, Int.reduceSub, Int.reduceMul, Int.reduceNe, and_self]
      refine ok_MO_isIn ?_
      simp only [w_MO_fitsAll_140, w_MO_fitsAll_142, c_ic, c_lc, c_nul, c_il, c_ll, c_al, c_is, c_ls, c_as, c_inc, c_b2, c_b2n, c_b1, c_d2, c_d2n, c_dsh, c_i2l, c_l2i, c_lcm, c_dup, c_dup2, c_pop, c_j1, c_j2, c_jn, c_sw0, c_sw, c_gI, c_gL, c_gR, c_gS, c_pI, c_pZ, c_pL, c_pR, c_iald, c_ialg, c_iast, c_iasg, c_bald, c_bast, c_lald, c_last, c_aald, c_aals, c_aast, c_alen, c_bnd, c_str, c_bndl, c_bnln, c_sval, c_scod, c_sbal, c_sbln, c_fmt, c_stop, c_iret, c_zret, c_nret, c_aret, c_vret, c_lret, c_cpy, c_callV, c_callS, tkA, lget, lput, lkill, jpush, vsz, jcat, lins, lent, List.length_cons, List.length_nil, List.replicate, List.append_nil, List.cons_append, List.nil_append, reduceIte, Nat.reduceAdd, Nat.reduceSub, Nat.reduceEqDiff, true_and, and_true, Nat.reduceLeDiff, Nat.lt_irrefl, Nat.succ_ne_self, forall_const, ne_eq, not_true_eq_false, not_false_eq_true, false_implies, implies_true, true_implies, true_or, or_true, or_false, false_or, eq_self, Int.reduceEq, Int.reduceLT, Int.reduceLE, Int.reduceNeg, Int.reduceToNat, Int.reduceAdd, Int.reduceSub, Int.reduceMul, Int.reduceNe, and_self, Int.toNat_natCast, t3 f r5]
      unfold mf1 at hh
      simp only at hh
      refine ⟨fun z => ?_, fun z => ?_⟩
      · rw [if_neg (fun e => by rw [if_pos e.1] at z; exact absurd z (by decide))] at hh
        exact hh τ t1
      · have z1 : 0 ≤ v - dg c w ∧ v - dg c w ≤ 20 := Classical.byContradiction (fun q => z (if_neg q))
        have go : (t f = -1 ∨ t f = v - dg c w) → At 58 [some (rf 10 0), some (.inl c), some (.inl x2), some (.inl (wr ((i : Int) + 1))), some (.inl f), some (.inl (v - dg c w))] [] (sI τ 74 0 f (v - dg c w)) := by
          intro y
          rw [if_pos ⟨z1, y⟩] at hh
          rw [inc_nat (show i ≤ 100000 by omega)]
          refine ih (i + 1) _ (up t f (v - dg c w)) _ _ _ (by omega) (t1.sI ⟨Or.inl rfl, rfl⟩) t2 (fun f' hf' => ?_) hh
          simp only [g_sI, true_and, up_at]
          split
          · rfl
          · exact t3 f' hf'
        refine ⟨⟨by omega, by omega⟩, fun y => ⟨⟨by omega, by omega⟩, go (Or.inl y)⟩, fun y => ⟨⟨by omega, by omega⟩, fun y2 => ⟨⟨by omega, by omega⟩, go (Or.inr y2)⟩, fun y2 => ?_⟩⟩
        rw [if_neg (by omega)] at hh
        exact hh τ t1
  -- the truths' beginning
  have key2 : ∀ (m i : Nat) (τ : jM) (x2 : Int), i + m = F → Fr Sfa σ τ → (∀ k, k < K → τ.1 75 0 k = dg c k) → (∀ f, f < i → τ.1 74 0 f = -1) → At 35 [some (rf 10 0), some (.inl c), some (.inl x2), some (.inl i), none, none] [] τ := by
    intro m
    induction m with
    | zero =>
      intro i τ x2 hi t1 t2 t3
      refine h35 _ _ _ ?_
      have c27 : τ.1 10 0 27 = F := by rw [t1.i (by unfold Sfa; omega)]; exact hf
      simp only [w_MO_fitsAll_35, w_MO_fitsAll_56, c_ic, c_lc, c_nul, c_il, c_ll, c_al, c_is, c_ls, c_as, c_inc, c_b2, c_b2n, c_b1, c_d2, c_d2n, c_dsh, c_i2l, c_l2i, c_lcm, c_dup, c_dup2, c_pop, c_j1, c_j2, c_jn, c_sw0, c_sw, c_gI, c_gL, c_gR, c_gS, c_pI, c_pZ, c_pL, c_pR, c_iald, c_ialg, c_iast, c_iasg, c_bald, c_bast, c_lald, c_last, c_aald, c_aals, c_aast, c_alen, c_bnd, c_str, c_bndl, c_bnln, c_sval, c_scod, c_sbal, c_sbln, c_fmt, c_stop, c_iret, c_zret, c_nret, c_aret, c_vret, c_lret, c_cpy, c_callV, c_callS, tkA, lget, lput, lkill, jpush, vsz, jcat, lins, lent, List.length_cons, List.length_nil, List.replicate, List.append_nil, List.cons_append, List.nil_append, reduceIte, Nat.reduceAdd, Nat.reduceSub, Nat.reduceEqDiff, true_and, and_true, Nat.reduceLeDiff, Nat.lt_irrefl, Nat.succ_ne_self, forall_const, ne_eq, not_true_eq_false, not_false_eq_true, false_implies, implies_true, true_implies, true_or, or_true, or_false, false_or, eq_self, Int.reduceEq, Int.reduceLT, Int.reduceLE, Int.reduceNeg, Int.reduceToNat, Int.reduceAdd, Int.reduceSub, Int.reduceMul, Int.reduceNe, and_self, c27]
      refine ⟨fun _ => ?_, fun w => absurd w (by omega)⟩
      obtain rfl : i = F := by omega
      refine key3 nt.length 0 τ (fun _ => -1) _ _ _ (Nat.zero_add _) t1 t2 t3 ?_
      rw [List.drop_zero]
      exact h
    | succ m ih =>
      intro i τ x2 hi t1 t2 t3
      refine h35 _ _ _ ?_
      have c27 : τ.1 10 0 27 = F := by rw [t1.i (by unfold Sfa; omega)]; exact hf
      simp only [w_MO_fitsAll_35, c_ic, c_lc, c_nul, c_il, c_ll, c_al, c_is, c_ls, c_as, c_inc, c_b2, c_b2n, c_b1, c_d2, c_d2n, c_dsh, c_i2l, c_l2i, c_lcm, c_dup, c_dup2, c_pop, c_j1, c_j2, c_jn, c_sw0, c_sw, c_gI, c_gL, c_gR, c_gS, c_pI, c_pZ, c_pL, c_pR, c_iald, c_ialg, c_iast, c_iasg, c_bald, c_bast, c_lald, c_last, c_aald, c_aals, c_aast, c_alen, c_bnd, c_str, c_bndl, c_bnln, c_sval, c_scod, c_sbal, c_sbln, c_fmt, c_stop, c_iret, c_zret, c_nret, c_aret, c_vret, c_lret, c_cpy, c_callV, c_callS, tkA, lget, lput, lkill, jpush, vsz, jcat, lins, lent, List.length_cons, List.length_nil, List.replicate, List.append_nil, List.cons_append, List.nil_append, reduceIte, Nat.reduceAdd, Nat.reduceSub, Nat.reduceEqDiff, true_and, and_true, Nat.reduceLeDiff, Nat.lt_irrefl, Nat.succ_ne_self, forall_const, ne_eq, not_true_eq_false, not_false_eq_true, false_implies, implies_true, true_implies, true_or, or_true, or_false, false_or, eq_self, Int.reduceEq, Int.reduceLT, Int.reduceLE, Int.reduceNeg, Int.reduceToNat, Int.reduceAdd, Int.reduceSub, Int.reduceMul, Int.reduceNe, and_self, c27, Int.toNat_natCast, inc_nat (show i ≤ 100000 by omega)]
      refine ⟨fun w => absurd w (by omega), fun _ => ⟨⟨by omega, by omega⟩, ?_⟩⟩
      refine ih (i + 1) _ _ (by omega) (t1.sI ⟨Or.inl rfl, rfl⟩) t2 (fun f hf' => ?_)
      simp only [g_sI, true_and]
      split
      · rfl
      · exact t3 f (by omega)
  -- the biases
  have key1 : ∀ (m i : Nat) (τ : jM), i + m = K → Fr Sfa σ τ → (∀ k, k < i → τ.1 75 0 k = dg c k) → At 4 [some (rf 10 0), some (.inl c), some (.inl (c / 10 ^ i : Nat)), some (.inl i), none, none] [] τ := by
    intro m
    induction m with
    | zero =>
      intro i τ hi t1 t2
      refine h4 _ _ _ ?_
      have c26 : τ.1 10 0 26 = K := by rw [t1.i (by unfold Sfa; omega)]; exact hk
      simp only [w_MO_fitsAll_4, w_MO_fitsAll_33, c_ic, c_lc, c_nul, c_il, c_ll, c_al, c_is, c_ls, c_as, c_inc, c_b2, c_b2n, c_b1, c_d2, c_d2n, c_dsh, c_i2l, c_l2i, c_lcm, c_dup, c_dup2, c_pop, c_j1, c_j2, c_jn, c_sw0, c_sw, c_gI, c_gL, c_gR, c_gS, c_pI, c_pZ, c_pL, c_pR, c_iald, c_ialg, c_iast, c_iasg, c_bald, c_bast, c_lald, c_last, c_aald, c_aals, c_aast, c_alen, c_bnd, c_str, c_bndl, c_bnln, c_sval, c_scod, c_sbal, c_sbln, c_fmt, c_stop, c_iret, c_zret, c_nret, c_aret, c_vret, c_lret, c_cpy, c_callV, c_callS, tkA, lget, lput, lkill, jpush, vsz, jcat, lins, lent, List.length_cons, List.length_nil, List.replicate, List.append_nil, List.cons_append, List.nil_append, reduceIte, Nat.reduceAdd, Nat.reduceSub, Nat.reduceEqDiff, true_and, and_true, Nat.reduceLeDiff, Nat.lt_irrefl, Nat.succ_ne_self, forall_const, ne_eq, not_true_eq_false, not_false_eq_true, false_implies, implies_true, true_implies, true_or, or_true, or_false, false_or, eq_self, Int.reduceEq, Int.reduceLT, Int.reduceLE, Int.reduceNeg, Int.reduceToNat, Int.reduceAdd, Int.reduceSub, Int.reduceMul, Int.reduceNe, and_self, c26]
      refine ⟨fun _ => ?_, fun w => absurd w (by omega)⟩
      obtain rfl : i = K := by omega
      exact key2 F 0 τ _ (Nat.zero_add _) t1 t2 (fun f hf => absurd hf (by omega))
    | succ m ih =>
      intro i τ hi t1 t2
      refine h4 _ _ _ ?_
      have c26 : τ.1 10 0 26 = K := by rw [t1.i (by unfold Sfa; omega)]; exact hk
      have hle : c / 10 ^ i ≤ c := Nat.div_le_self _ _
      have e1 : jrem ((c / 10 ^ i : Nat) : Int) 10 = dg c i := by
        rw [jrem_eq (Int.natCast_nonneg _) (by omega) (by decide) (by decide)]
        rfl
      have e2 : jdiv ((c / 10 ^ i : Nat) : Int) 10 = ((c / 10 ^ (i + 1) : Nat) : Int) := by
        rw [jdiv_eq (Int.natCast_nonneg _) (by omega) (by decide) (by decide), Nat.pow_succ, ← Nat.div_div_eq_div_mul]
        rfl
      simp only [w_MO_fitsAll_4, c_ic, c_lc, c_nul, c_il, c_ll, c_al, c_is, c_ls, c_as, c_inc, c_b2, c_b2n, c_b1, c_d2, c_d2n, c_dsh, c_i2l, c_l2i, c_lcm, c_dup, c_dup2, c_pop, c_j1, c_j2, c_jn, c_sw0, c_sw, c_gI, c_gL, c_gR, c_gS, c_pI, c_pZ, c_pL, c_pR, c_iald, c_ialg, c_iast, c_iasg, c_bald, c_bast, c_lald, c_last, c_aald, c_aals, c_aast, c_alen, c_bnd, c_str, c_bndl, c_bnln, c_sval, c_scod, c_sbal, c_sbln, c_fmt, c_stop, c_iret, c_zret, c_nret, c_aret, c_vret, c_lret, c_cpy, c_callV, c_callS, tkA, lget, lput, lkill, jpush, vsz, jcat, lins, lent, List.length_cons, List.length_nil, List.replicate, List.append_nil, List.cons_append, List.nil_append, reduceIte, Nat.reduceAdd, Nat.reduceSub, Nat.reduceEqDiff, true_and, and_true, Nat.reduceLeDiff, Nat.lt_irrefl, Nat.succ_ne_self, forall_const, ne_eq, not_true_eq_false, not_false_eq_true, false_implies, implies_true, true_implies, true_or, or_true, or_false, false_or, eq_self, Int.reduceEq, Int.reduceLT, Int.reduceLE, Int.reduceNeg, Int.reduceToNat, Int.reduceAdd, Int.reduceSub, Int.reduceMul, Int.reduceNe, and_self, c26, Int.toNat_natCast, e1, e2, inc_nat (show i ≤ 100000 by omega)]
      refine ⟨fun w => absurd w (by omega), fun _ => ⟨⟨by omega, by omega⟩, ?_⟩⟩
      refine ih (i + 1) _ (by omega) (t1.sI ⟨Or.inr rfl, rfl⟩) (fun k hk' => ?_)
      simp only [g_sI, true_and]
      split
      · rename_i e; rw [e]
      · exact t2 k (by omega)
  simp only [w_MO_fitsAll_0, c_ic, c_lc, c_nul, c_il, c_ll, c_al, c_is, c_ls, c_as, c_inc, c_b2, c_b2n, c_b1, c_d2, c_d2n, c_dsh, c_i2l, c_l2i, c_lcm, c_dup, c_dup2, c_pop, c_j1, c_j2, c_jn, c_sw0, c_sw, c_gI, c_gL, c_gR, c_gS, c_pI, c_pZ, c_pL, c_pR, c_iald, c_ialg, c_iast, c_iasg, c_bald, c_bast, c_lald, c_last, c_aald, c_aals, c_aast, c_alen, c_bnd, c_str, c_bndl, c_bnln, c_sval, c_scod, c_sbal, c_sbln, c_fmt, c_stop, c_iret, c_zret, c_nret, c_aret, c_vret, c_lret, c_cpy, c_callV, c_callS, tkA, lget, lput, lkill, jpush, vsz, jcat, lins, lent, List.length_cons, List.length_nil, List.replicate, List.append_nil, List.cons_append, List.nil_append, reduceIte, Nat.reduceAdd, Nat.reduceSub, Nat.reduceEqDiff, true_and, and_true, Nat.reduceLeDiff, Nat.lt_irrefl, Nat.succ_ne_self, forall_const, ne_eq, not_true_eq_false, not_false_eq_true, false_implies, implies_true, true_implies, true_or, or_true, or_false, false_or, eq_self, Int.reduceEq, Int.reduceLT, Int.reduceLE, Int.reduceNeg, Int.reduceToNat, Int.reduceAdd, Int.reduceSub, Int.reduceMul, Int.reduceNe, and_self]
  have := key1 K 0 σ (Nat.zero_add _) Fr.rf (fun k hk => absurd hk (by omega))
  rw [Nat.pow_zero, Nat.div_one] at this
  exact this
end CO
section C2
variable {nt : List jN} {K F : Nat}
/-- the model's biases, its truths, as bits -/
def cvB (nt : List jN) (k c : Nat) : Nat := if (mfS nt (dg c)).isSome = true then 2 ^ dgN c k else 0
def cvT (nt : List jN) (f c : Nat) : Nat := match mfS nt (dg c) with
  | none => 0
  | some t => if t f = -1 then 2097151 else 2 ^ (t f).toNat
theorem p10 (hK : K ≤ 4) : 10 ^ K ≤ 10000 := Nat.pow_le_pow_right (n := 10) (by decide) hK
theorem cvB_bits {k : Nat} (hK : K ≤ 4) (hk : k < K) (hq : ∀ q ∈ nt, q.1 < K) : ∃ y : Nat, y < 1024 ∧ orF (fun c => (cvB nt k c : Int)) (10 ^ K) = y ∧ ∀ g : Nat, y.testBit g = true ↔ BiM nt K k g := by
  obtain ⟨y, h1, h2, h3⟩ := orN (u := cvB nt k) (m := 10) (by decide) (10 ^ K) (fun i hi => by
    unfold cvB
    split
    · exact Nat.pow_lt_pow_right (by decide) (by unfold dgN; omega)
    · exact Nat.pow_pos (by decide))
  refine ⟨y, h1, h2, fun g => ?_⟩
  rw [h3]
  constructor
  · rintro ⟨c, hc, e⟩
    unfold cvB at e
    split at e
    · rename_i hz
      obtain ⟨t, ht⟩ := Option.isSome_iff_exists.mp hz
      rw [Nat.testBit_two_pow] at e
      have e : dgN c k = g := of_decide_eq_true e
      refine ⟨dg c, t, mfS_ag (fun w _ => dg_in c w) hq ht, fun w _ => dg_in c w, ?_⟩
      unfold dg
      rw [e]
    · simp at e
  · rintro ⟨b, t, ha, hb, e⟩
    obtain ⟨c, hc, he⟩ := code_ex hK hb
    obtain ⟨t', ht⟩ := mfS_of ha hq he
    refine ⟨c, hc, ?_⟩
    unfold cvB
    rw [ht]
    have e2 : dgN c k = g := by
      have := he k hk
      rw [e] at this
      unfold dg at this
      omega
    simp [e2, Nat.testBit_two_pow]
theorem cvT_bits {f : Nat} (hK : K ≤ 4) (hq : ∀ q ∈ nt, q.1 < K) : ∃ y : Nat, y < 2097152 ∧ orF (fun c => (cvT nt f c : Int)) (10 ^ K) = y ∧ ∀ g : Nat, y.testBit g = true ↔ TrM nt K f g := by
  have told : ∀ c t, mfS nt (dg c) = some t → (t f = -1 ↔ ∀ q ∈ nt, q.2.1 ≠ f) ∧ (t f ≠ -1 → 0 ≤ t f ∧ t f ≤ 20) := by
    intro c t ht
    obtain ⟨s1, s2, s3⟩ := mf1_st nt _ t ht
    refine ⟨⟨fun e q hq e2 => ?_, fun h => s3 f h⟩, fun e => ?_⟩
    · have := s2 q hq
      rw [e2] at this
      omega
    · refine Classical.byContradiction (fun hn => e (s3 f (fun q hq e2 => hn ?_)))
      have := s2 q hq
      rw [e2] at this
      omega
  obtain ⟨y, h1, h2, h3⟩ := orN (u := cvT nt f) (m := 21) (by decide) (10 ^ K) (fun i hi => by
    unfold cvT
    split
    · exact Nat.pow_pos (by decide)
    · rename_i t ht
      split
      · decide
      · rename_i hz
        have := (told i t ht).2 hz
        exact Nat.pow_lt_pow_right (by decide) (by omega))
  refine ⟨y, h1, h2, fun g => ?_⟩
  rw [h3]
  constructor
  · rintro ⟨c, hc, e⟩
    unfold cvT at e
    split at e
    · simp at e
    · rename_i t ht
      have hg := mfS_ag (fun w _ => dg_in c w) hq ht
      refine ⟨dg c, t, hg, fun w _ => dg_in c w, ?_⟩
      split at e
      · rename_i hz
        rw [show (2097151 : Nat) = 2 ^ 21 - 1 by decide, Nat.testBit_two_pow_sub_one] at e
        have e : g < 21 := of_decide_eq_true e
        exact Or.inl ⟨(told c t ht).1.mp hz, by omega⟩
      · rename_i hz
        rw [Nat.testBit_two_pow] at e
        have e : (t f).toNat = g := of_decide_eq_true e
        have := (told c t ht).2 hz
        refine Or.inr ⟨?_, by omega⟩
        refine Classical.byContradiction (fun hn => hz ((told c t ht).1.mpr (fun q hq e2 => hn ⟨q, hq, e2⟩)))
  · rintro ⟨b, t, ha, hb, hor⟩
    obtain ⟨c, hc, he⟩ := code_ex hK hb
    obtain ⟨t', ht⟩ := mfS_of ha hq he
    refine ⟨c, hc, ?_⟩
    unfold cvT
    rw [ht]
    simp only
    rcases hor with ⟨hn, hg⟩ | ⟨⟨q, hq', e⟩, hg⟩
    · rw [if_pos ((told c t' ht).1.mpr hn), show (2097151 : Nat) = 2 ^ 21 - 1 by decide, Nat.testBit_two_pow_sub_one]
      exact decide_eq_true (by omega)
    · have h5 := (mf1_st nt _ t' ht).2.1 q hq'
      have h6 := ha q hq'
      rw [he q.1 (hq q hq'), e] at h5
      rw [e, hg] at h6
      rw [if_neg (by omega), Nat.testBit_two_pow]
      exact decide_eq_true (by omega)
end C2
theorem bits_eq {x y : Nat} {Q : Nat → Prop} (hx : ∀ g, x.testBit g = true ↔ Q g) (hy : ∀ g, y.testBit g = true ↔ Q g) : x = y := by
  apply Nat.eq_of_testBit_eq
  intro g
  exact Bool.eq_iff_iff.mpr ((hx g).trans (hy g).symm)
theorem pk_21 {x : Nat} {i : Int} (hx : x < 2097152) : pkS (setL (bt x) 24 0) i = pkS (setL (bt x) 21 0) i := by
  rw [show (24 : Nat) = 21 + 3 from rfl, setL_more (k := 3) 21 0 (fun q hq => bt_big (m := 21) hx (by omega))]
theorem pr_biases {k i : Int} : Pr M_LB_biases M_MO_biases [.inl k, .inl i] := by
  intro σ q hJ
  obtain ⟨n, T, K, F, r, N, P, CL, PL, U, nt, rfl, hJx⟩ := id hJ
  obtain ⟨hT, hR, hW, hA, hI, hK, hM, hP, hN, hG⟩ := id hJx
  obtain ⟨q1, -, -, -, -, q4, q5, K4, F8, q6⟩ := id hR
  obtain ⟨hU, hb, hm⟩ := id hN
  refine Ct.ok (fun ha _ => ?_)
  have hi : inR i := ha i (by simp)
  refine i_LB_biases (Nat.le_refl 3) ?_
  simp only [w_LB_biases_24, w_LB_biases_23, w_LB_biases_0, c_ic, c_lc, c_nul, c_il, c_ll, c_al, c_is, c_ls, c_as, c_inc, c_b2, c_b2n, c_b1, c_d2, c_d2n, c_dsh, c_i2l, c_l2i, c_lcm, c_dup, c_dup2, c_pop, c_j1, c_j2, c_jn, c_sw0, c_sw, c_gI, c_gL, c_gR, c_gS, c_pI, c_pZ, c_pL, c_pR, c_iald, c_ialg, c_iast, c_iasg, c_bald, c_bast, c_lald, c_last, c_aald, c_aals, c_aast, c_alen, c_bnd, c_str, c_bndl, c_bnln, c_sval, c_scod, c_sbal, c_sbln, c_fmt, c_stop, c_iret, c_zret, c_nret, c_aret, c_vret, c_lret, c_cpy, c_callV, c_callS, tkA, lget, lput, lkill, jpush, vsz, jcat, lins, lent, List.length_cons, List.length_nil, List.replicate, List.append_nil, List.cons_append, List.nil_append, reduceIte, Nat.reduceAdd, Nat.reduceSub, Nat.reduceEqDiff, true_and, and_true, Nat.reduceLeDiff, Nat.lt_irrefl, Nat.succ_ne_self, forall_const, ne_eq, not_true_eq_false, not_false_eq_true, false_implies, implies_true, true_implies, true_or, or_true, or_false, false_or, eq_self, Int.reduceEq, Int.reduceLT, Int.reduceLE, Int.reduceNeg, Int.reduceToNat, Int.reduceAdd, Int.reduceSub, Int.reduceMul, Int.reduceNe, and_self]
  refine ok_LB_isKingdom hR ?_
  simp only [c_ic, c_lc, c_nul, c_il, c_ll, c_al, c_is, c_ls, c_as, c_inc, c_b2, c_b2n, c_b1, c_d2, c_d2n, c_dsh, c_i2l, c_l2i, c_lcm, c_dup, c_dup2, c_pop, c_j1, c_j2, c_jn, c_sw0, c_sw, c_gI, c_gL, c_gR, c_gS, c_pI, c_pZ, c_pL, c_pR, c_iald, c_ialg, c_iast, c_iasg, c_bald, c_bast, c_lald, c_last, c_aald, c_aals, c_aast, c_alen, c_bnd, c_str, c_bndl, c_bnln, c_sval, c_scod, c_sbal, c_sbln, c_fmt, c_stop, c_iret, c_zret, c_nret, c_aret, c_vret, c_lret, c_cpy, c_callV, c_callS, tkA, lget, lput, lkill, jpush, vsz, jcat, lins, lent, List.length_cons, List.length_nil, List.replicate, List.append_nil, List.cons_append, List.nil_append, reduceIte, Nat.reduceAdd, Nat.reduceSub, Nat.reduceEqDiff, true_and, and_true, Nat.reduceLeDiff, Nat.lt_irrefl, Nat.succ_ne_self, forall_const, ne_eq, not_true_eq_false, not_false_eq_true, false_implies, implies_true, true_implies, true_or, or_true, or_false, false_or, eq_self, Int.reduceEq, Int.reduceLT, Int.reduceLE, Int.reduceNeg, Int.reduceToNat, Int.reduceAdd, Int.reduceSub, Int.reduceMul, Int.reduceNe, and_self]
  refine ⟨fun z => ⟨⟨_, rfl⟩, ?_⟩, fun z => ?_⟩
  · refine i_MO_biases (Nat.le_add_right 3 2) (fun At h25 => ?_)
    simp only [w_MO_biases_0, w_MO_biases_18, c_ic, c_lc, c_nul, c_il, c_ll, c_al, c_is, c_ls, c_as, c_inc, c_b2, c_b2n, c_b1, c_d2, c_d2n, c_dsh, c_i2l, c_l2i, c_lcm, c_dup, c_dup2, c_pop, c_j1, c_j2, c_jn, c_sw0, c_sw, c_gI, c_gL, c_gR, c_gS, c_pI, c_pZ, c_pL, c_pR, c_iald, c_ialg, c_iast, c_iasg, c_bald, c_bast, c_lald, c_last, c_aald, c_aals, c_aast, c_alen, c_bnd, c_str, c_bndl, c_bnln, c_sval, c_scod, c_sbal, c_sbln, c_fmt, c_stop, c_iret, c_zret, c_nret, c_aret, c_vret, c_lret, c_cpy, c_callV, c_callS, tkA, lget, lput, lkill, jpush, vsz, jcat, lins, lent, List.length_cons, List.length_nil, List.replicate, List.append_nil, List.cons_append, List.nil_append, reduceIte, Nat.reduceAdd, Nat.reduceSub, Nat.reduceEqDiff, true_and, and_true, Nat.reduceLeDiff, Nat.lt_irrefl, Nat.succ_ne_self, forall_const, ne_eq, not_true_eq_false, not_false_eq_true, false_implies, implies_true, true_implies, true_or, or_true, or_false, false_or, eq_self, Int.reduceEq, Int.reduceLT, Int.reduceLE, Int.reduceNeg, Int.reduceToNat, Int.reduceAdd, Int.reduceSub, Int.reduceMul, Int.reduceNe, and_self]
    refine ok_MO_isKingdom (K := K) q4 ?_
    simp only [c_ic, c_lc, c_nul, c_il, c_ll, c_al, c_is, c_ls, c_as, c_inc, c_b2, c_b2n, c_b1, c_d2, c_d2n, c_dsh, c_i2l, c_l2i, c_lcm, c_dup, c_dup2, c_pop, c_j1, c_j2, c_jn, c_sw0, c_sw, c_gI, c_gL, c_gR, c_gS, c_pI, c_pZ, c_pL, c_pR, c_iald, c_ialg, c_iast, c_iasg, c_bald, c_bast, c_lald, c_last, c_aald, c_aals, c_aast, c_alen, c_bnd, c_str, c_bndl, c_bnln, c_sval, c_scod, c_sbal, c_sbln, c_fmt, c_stop, c_iret, c_zret, c_nret, c_aret, c_vret, c_lret, c_cpy, c_callV, c_callS, tkA, lget, lput, lkill, jpush, vsz, jcat, lins, lent, List.length_cons, List.length_nil, List.replicate, List.append_nil, List.cons_append, List.nil_append, reduceIte, Nat.reduceAdd, Nat.reduceSub, Nat.reduceEqDiff, true_and, and_true, Nat.reduceLeDiff, Nat.lt_irrefl, Nat.succ_ne_self, forall_const, ne_eq, not_true_eq_false, not_false_eq_true, false_implies, implies_true, true_implies, true_or, or_true, or_false, false_or, eq_self, Int.reduceEq, Int.reduceLT, Int.reduceLE, Int.reduceNeg, Int.reduceToNat, Int.reduceAdd, Int.reduceSub, Int.reduceMul, Int.reduceNe, and_self]
    exact ⟨fun _ => hJ.sc th_sc, fun w => absurd z w⟩
  · have z1 : 0 ≤ k ∧ k < K := Classical.byContradiction (fun q => z (if_neg q))
    obtain ⟨k, rfl⟩ := Int.eq_ofNat_of_zero_le z1.1
    obtain ⟨y, y1, y2, y3⟩ := bi_bits hU.1 K4 (show k < K by omega) (fun q hq => (hb q hq).1)
    obtain ⟨y', w1, w2, w3⟩ := cvB_bits K4 (show k < K by omega) (fun q hq => (hb q hq).1)
    obtain rfl : y = y' := bits_eq y3 w3
    refine ok_RU_biasesOf hU K4 (by omega) ?_
    rw [y2]
    simp only [c_ic, c_lc, c_nul, c_il, c_ll, c_al, c_is, c_ls, c_as, c_inc, c_b2, c_b2n, c_b1, c_d2, c_d2n, c_dsh, c_i2l, c_l2i, c_lcm, c_dup, c_dup2, c_pop, c_j1, c_j2, c_jn, c_sw0, c_sw, c_gI, c_gL, c_gR, c_gS, c_pI, c_pZ, c_pL, c_pR, c_iald, c_ialg, c_iast, c_iasg, c_bald, c_bast, c_lald, c_last, c_aald, c_aals, c_aast, c_alen, c_bnd, c_str, c_bndl, c_bnln, c_sval, c_scod, c_sbal, c_sbln, c_fmt, c_stop, c_iret, c_zret, c_nret, c_aret, c_vret, c_lret, c_cpy, c_callV, c_callS, tkA, lget, lput, lkill, jpush, vsz, jcat, lins, lent, List.length_cons, List.length_nil, List.replicate, List.append_nil, List.cons_append, List.nil_append, reduceIte, Nat.reduceAdd, Nat.reduceSub, Nat.reduceEqDiff, true_and, and_true, Nat.reduceLeDiff, Nat.lt_irrefl, Nat.succ_ne_self, forall_const, ne_eq, not_true_eq_false, not_false_eq_true, false_implies, implies_true, true_implies, true_or, or_true, or_false, false_or, eq_self, Int.reduceEq, Int.reduceLT, Int.reduceLE, Int.reduceNeg, Int.reduceToNat, Int.reduceAdd, Int.reduceSub, Int.reduceMul, Int.reduceNe, and_self]
    refine ok_LB_pick (by omega) hi ?_
    simp only [c_ic, c_lc, c_nul, c_il, c_ll, c_al, c_is, c_ls, c_as, c_inc, c_b2, c_b2n, c_b1, c_d2, c_d2n, c_dsh, c_i2l, c_l2i, c_lcm, c_dup, c_dup2, c_pop, c_j1, c_j2, c_jn, c_sw0, c_sw, c_gI, c_gL, c_gR, c_gS, c_pI, c_pZ, c_pL, c_pR, c_iald, c_ialg, c_iast, c_iasg, c_bald, c_bast, c_lald, c_last, c_aald, c_aals, c_aast, c_alen, c_bnd, c_str, c_bndl, c_bnln, c_sval, c_scod, c_sbal, c_sbln, c_fmt, c_stop, c_iret, c_zret, c_nret, c_aret, c_vret, c_lret, c_cpy, c_callV, c_callS, tkA, lget, lput, lkill, jpush, vsz, jcat, lins, lent, List.length_cons, List.length_nil, List.replicate, List.append_nil, List.cons_append, List.nil_append, reduceIte, Nat.reduceAdd, Nat.reduceSub, Nat.reduceEqDiff, true_and, and_true, Nat.reduceLeDiff, Nat.lt_irrefl, Nat.succ_ne_self, forall_const, ne_eq, not_true_eq_false, not_false_eq_true, false_implies, implies_true, true_implies, true_or, or_true, or_false, false_or, eq_self, Int.reduceEq, Int.reduceLT, Int.reduceLE, Int.reduceNeg, Int.reduceToNat, Int.reduceAdd, Int.reduceSub, Int.reduceMul, Int.reduceNe, and_self]
    refine ⟨⟨_, rfl⟩, ?_⟩
    refine i_MO_biases (Nat.le_add_right 3 2) (fun At h25 => ?_)
    have hp := p10 K4
    have key : ∀ (m c : Nat) (τ : jM), c + m = 10 ^ K → Fr Sc σ τ → -1 ≤ i → At 25 [some (rf 10 0), some (.inl k), some (.inl i), some (.inl (orF (fun c => (cvB nt k c : Int)) c)), some (.inl c)] [] τ := by
      intro m
      induction m with
      | zero =>
        intro c τ hc t1 hi1
        refine h25 _ _ _ ?_
        have hJ1 := hJx.sc t1
        simp only [w_MO_biases_25, w_MO_biases_64, c_ic, c_lc, c_nul, c_il, c_ll, c_al, c_is, c_ls, c_as, c_inc, c_b2, c_b2n, c_b1, c_d2, c_d2n, c_dsh, c_i2l, c_l2i, c_lcm, c_dup, c_dup2, c_pop, c_j1, c_j2, c_jn, c_sw0, c_sw, c_gI, c_gL, c_gR, c_gS, c_pI, c_pZ, c_pL, c_pR, c_iald, c_ialg, c_iast, c_iasg, c_bald, c_bast, c_lald, c_last, c_aald, c_aals, c_aast, c_alen, c_bnd, c_str, c_bndl, c_bnln, c_sval, c_scod, c_sbal, c_sbln, c_fmt, c_stop, c_iret, c_zret, c_nret, c_aret, c_vret, c_lret, c_cpy, c_callV, c_callS, tkA, lget, lput, lkill, jpush, vsz, jcat, lins, lent, List.length_cons, List.length_nil, List.replicate, List.append_nil, List.cons_append, List.nil_append, reduceIte, Nat.reduceAdd, Nat.reduceSub, Nat.reduceEqDiff, true_and, and_true, Nat.reduceLeDiff, Nat.lt_irrefl, Nat.succ_ne_self, forall_const, ne_eq, not_true_eq_false, not_false_eq_true, false_implies, implies_true, true_implies, true_or, or_true, or_false, false_or, eq_self, Int.reduceEq, Int.reduceLT, Int.reduceLE, Int.reduceNeg, Int.reduceToNat, Int.reduceAdd, Int.reduceSub, Int.reduceMul, Int.reduceNe, and_self]
        refine ok_MO_codes hJ1.2.1.2.2.2.2.2.1 K4 ?_
        simp only [c_ic, c_lc, c_nul, c_il, c_ll, c_al, c_is, c_ls, c_as, c_inc, c_b2, c_b2n, c_b1, c_d2, c_d2n, c_dsh, c_i2l, c_l2i, c_lcm, c_dup, c_dup2, c_pop, c_j1, c_j2, c_jn, c_sw0, c_sw, c_gI, c_gL, c_gR, c_gS, c_pI, c_pZ, c_pL, c_pR, c_iald, c_ialg, c_iast, c_iasg, c_bald, c_bast, c_lald, c_last, c_aald, c_aals, c_aast, c_alen, c_bnd, c_str, c_bndl, c_bnln, c_sval, c_scod, c_sbal, c_sbln, c_fmt, c_stop, c_iret, c_zret, c_nret, c_aret, c_vret, c_lret, c_cpy, c_callV, c_callS, tkA, lget, lput, lkill, jpush, vsz, jcat, lins, lent, List.length_cons, List.length_nil, List.replicate, List.append_nil, List.cons_append, List.nil_append, reduceIte, Nat.reduceAdd, Nat.reduceSub, Nat.reduceEqDiff, true_and, and_true, Nat.reduceLeDiff, Nat.lt_irrefl, Nat.succ_ne_self, forall_const, ne_eq, not_true_eq_false, not_false_eq_true, false_implies, implies_true, true_implies, true_or, or_true, or_false, false_or, eq_self, Int.reduceEq, Int.reduceLT, Int.reduceLE, Int.reduceNeg, Int.reduceToNat, Int.reduceAdd, Int.reduceSub, Int.reduceMul, Int.reduceNe, and_self]
        refine ⟨fun _ => ?_, fun w => absurd w (by omega)⟩
        rw [show c = 10 ^ K by omega, w2]
        refine ok_MO_pick (by omega) hi1 ?_
        simp only [c_ic, c_lc, c_nul, c_il, c_ll, c_al, c_is, c_ls, c_as, c_inc, c_b2, c_b2n, c_b1, c_d2, c_d2n, c_dsh, c_i2l, c_l2i, c_lcm, c_dup, c_dup2, c_pop, c_j1, c_j2, c_jn, c_sw0, c_sw, c_gI, c_gL, c_gR, c_gS, c_pI, c_pZ, c_pL, c_pR, c_iald, c_ialg, c_iast, c_iasg, c_bald, c_bast, c_lald, c_last, c_aald, c_aals, c_aast, c_alen, c_bnd, c_str, c_bndl, c_bnln, c_sval, c_scod, c_sbal, c_sbln, c_fmt, c_stop, c_iret, c_zret, c_nret, c_aret, c_vret, c_lret, c_cpy, c_callV, c_callS, tkA, lget, lput, lkill, jpush, vsz, jcat, lins, lent, List.length_cons, List.length_nil, List.replicate, List.append_nil, List.cons_append, List.nil_append, reduceIte, Nat.reduceAdd, Nat.reduceSub, Nat.reduceEqDiff, true_and, and_true, Nat.reduceLeDiff, Nat.lt_irrefl, Nat.succ_ne_self, forall_const, ne_eq, not_true_eq_false, not_false_eq_true, false_implies, implies_true, true_implies, true_or, or_true, or_false, false_or, eq_self, Int.reduceEq, Int.reduceLT, Int.reduceLE, Int.reduceNeg, Int.reduceToNat, Int.reduceAdd, Int.reduceSub, Int.reduceMul, Int.reduceNe, and_self]
        rw [pk_21 (by omega)]
        exact ⟨rfl, n, T, K, F, r, N, P, CL, PL, U, nt, rfl, hJ1⟩
      | succ m ih =>
        intro c τ hc t1 hi1
        refine h25 _ _ _ ?_
        have hJ1 := hJx.sc t1
        simp only [w_MO_biases_25, c_ic, c_lc, c_nul, c_il, c_ll, c_al, c_is, c_ls, c_as, c_inc, c_b2, c_b2n, c_b1, c_d2, c_d2n, c_dsh, c_i2l, c_l2i, c_lcm, c_dup, c_dup2, c_pop, c_j1, c_j2, c_jn, c_sw0, c_sw, c_gI, c_gL, c_gR, c_gS, c_pI, c_pZ, c_pL, c_pR, c_iald, c_ialg, c_iast, c_iasg, c_bald, c_bast, c_lald, c_last, c_aald, c_aals, c_aast, c_alen, c_bnd, c_str, c_bndl, c_bnln, c_sval, c_scod, c_sbal, c_sbln, c_fmt, c_stop, c_iret, c_zret, c_nret, c_aret, c_vret, c_lret, c_cpy, c_callV, c_callS, tkA, lget, lput, lkill, jpush, vsz, jcat, lins, lent, List.length_cons, List.length_nil, List.replicate, List.append_nil, List.cons_append, List.nil_append, reduceIte, Nat.reduceAdd, Nat.reduceSub, Nat.reduceEqDiff, true_and, and_true, Nat.reduceLeDiff, Nat.lt_irrefl, Nat.succ_ne_self, forall_const, ne_eq, not_true_eq_false, not_false_eq_true, false_implies, implies_true, true_implies, true_or, or_true, or_false, false_or, eq_self, Int.reduceEq, Int.reduceLT, Int.reduceLE, Int.reduceNeg, Int.reduceToNat, Int.reduceAdd, Int.reduceSub, Int.reduceMul, Int.reduceNe, and_self]
        refine ok_MO_codes hJ1.2.1.2.2.2.2.2.1 K4 ?_
        simp only [c_ic, c_lc, c_nul, c_il, c_ll, c_al, c_is, c_ls, c_as, c_inc, c_b2, c_b2n, c_b1, c_d2, c_d2n, c_dsh, c_i2l, c_l2i, c_lcm, c_dup, c_dup2, c_pop, c_j1, c_j2, c_jn, c_sw0, c_sw, c_gI, c_gL, c_gR, c_gS, c_pI, c_pZ, c_pL, c_pR, c_iald, c_ialg, c_iast, c_iasg, c_bald, c_bast, c_lald, c_last, c_aald, c_aals, c_aast, c_alen, c_bnd, c_str, c_bndl, c_bnln, c_sval, c_scod, c_sbal, c_sbln, c_fmt, c_stop, c_iret, c_zret, c_nret, c_aret, c_vret, c_lret, c_cpy, c_callV, c_callS, tkA, lget, lput, lkill, jpush, vsz, jcat, lins, lent, List.length_cons, List.length_nil, List.replicate, List.append_nil, List.cons_append, List.nil_append, reduceIte, Nat.reduceAdd, Nat.reduceSub, Nat.reduceEqDiff, true_and, and_true, Nat.reduceLeDiff, Nat.lt_irrefl, Nat.succ_ne_self, forall_const, ne_eq, not_true_eq_false, not_false_eq_true, false_implies, implies_true, true_implies, true_or, or_true, or_false, false_or, eq_self, Int.reduceEq, Int.reduceLT, Int.reduceLE, Int.reduceNeg, Int.reduceToNat, Int.reduceAdd, Int.reduceSub, Int.reduceMul, Int.reduceNe, and_self]
        refine ⟨fun w => absurd w (by omega), fun _ => ?_⟩
        refine ok_MO_fitsAll hJ1.2.1.2.2.2.2.2.1 hJ1.2.1.2.2.2.2.2.2.1 K4 F8 hJ1.2.2.2.2.2.2.2.2.1.2.2 hU.1 hb (by omega) ?_
        have eo : orF (fun c => (cvB nt k c : Int)) (c + 1) = jor (orF (fun c => (cvB nt k c : Int)) c) (cvB nt k c : Int) := rfl
        have ec : cvB nt k c = if (mfS nt (dg c)).isSome = true then 2 ^ dgN c k else 0 := rfl
        cases hq : mfS nt (dg c) with
        | none =>
          intro υ u1
          rw [hq] at ec
          have nx := ih (c + 1) υ (by omega) (t1.tr (u1.wk (fun _ _ _ q => q.c))) hi1
          rw [eo, ec] at nx
          simp only [w_MO_biases_55, w_MO_biases_56, c_ic, c_lc, c_nul, c_il, c_ll, c_al, c_is, c_ls, c_as, c_inc, c_b2, c_b2n, c_b1, c_d2, c_d2n, c_dsh, c_i2l, c_l2i, c_lcm, c_dup, c_dup2, c_pop, c_j1, c_j2, c_jn, c_sw0, c_sw, c_gI, c_gL, c_gR, c_gS, c_pI, c_pZ, c_pL, c_pR, c_iald, c_ialg, c_iast, c_iasg, c_bald, c_bast, c_lald, c_last, c_aald, c_aals, c_aast, c_alen, c_bnd, c_str, c_bndl, c_bnln, c_sval, c_scod, c_sbal, c_sbln, c_fmt, c_stop, c_iret, c_zret, c_nret, c_aret, c_vret, c_lret, c_cpy, c_callV, c_callS, tkA, lget, lput, lkill, jpush, vsz, jcat, lins, lent, List.length_cons, List.length_nil, List.replicate, List.append_nil, List.cons_append, List.nil_append, reduceIte, Nat.reduceAdd, Nat.reduceSub, Nat.reduceEqDiff, true_and, and_true, Nat.reduceLeDiff, Nat.lt_irrefl, Nat.succ_ne_self, forall_const, ne_eq, not_true_eq_false, not_false_eq_true, false_implies, implies_true, true_implies, true_or, or_true, or_false, false_or, eq_self, Int.reduceEq, Int.reduceLT, Int.reduceLE, Int.reduceNeg, Int.reduceToNat, Int.reduceAdd, Int.reduceSub, Int.reduceMul, Int.reduceNe, and_self, inc_nat (show c ≤ 100000 by omega)]
          exact nx
        | some t =>
          intro υ u1 u2 u3
          rw [hq] at ec
          have nx := ih (c + 1) υ (by omega) (t1.tr (u1.wk (fun _ _ _ q => q.c))) hi1
          rw [eo, ec, if_pos (show (some t).isSome = true from rfl), ← jshl_two (by unfold dgN; omega)] at nx
          simp only [w_MO_biases_56, c_ic, c_lc, c_nul, c_il, c_ll, c_al, c_is, c_ls, c_as, c_inc, c_b2, c_b2n, c_b1, c_d2, c_d2n, c_dsh, c_i2l, c_l2i, c_lcm, c_dup, c_dup2, c_pop, c_j1, c_j2, c_jn, c_sw0, c_sw, c_gI, c_gL, c_gR, c_gS, c_pI, c_pZ, c_pL, c_pR, c_iald, c_ialg, c_iast, c_iasg, c_bald, c_bast, c_lald, c_last, c_aald, c_aals, c_aast, c_alen, c_bnd, c_str, c_bndl, c_bnln, c_sval, c_scod, c_sbal, c_sbln, c_fmt, c_stop, c_iret, c_zret, c_nret, c_aret, c_vret, c_lret, c_cpy, c_callV, c_callS, tkA, lget, lput, lkill, jpush, vsz, jcat, lins, lent, List.length_cons, List.length_nil, List.replicate, List.append_nil, List.cons_append, List.nil_append, reduceIte, Nat.reduceAdd, Nat.reduceSub, Nat.reduceEqDiff, true_and, and_true, Nat.reduceLeDiff, Nat.lt_irrefl, Nat.succ_ne_self, forall_const, ne_eq, not_true_eq_false, not_false_eq_true, false_implies, implies_true, true_implies, true_or, or_true, or_false, false_or, eq_self, Int.reduceEq, Int.reduceLT, Int.reduceLE, Int.reduceNeg, Int.reduceToNat, Int.reduceAdd, Int.reduceSub, Int.reduceMul, Int.reduceNe, and_self, Int.toNat_natCast, u2 k (by omega), inc_nat (show c ≤ 100000 by omega)]
          exact ⟨⟨by omega, by omega⟩, nx⟩
    simp only [w_MO_biases_0, w_MO_biases_18, w_MO_biases_20, c_ic, c_lc, c_nul, c_il, c_ll, c_al, c_is, c_ls, c_as, c_inc, c_b2, c_b2n, c_b1, c_d2, c_d2n, c_dsh, c_i2l, c_l2i, c_lcm, c_dup, c_dup2, c_pop, c_j1, c_j2, c_jn, c_sw0, c_sw, c_gI, c_gL, c_gR, c_gS, c_pI, c_pZ, c_pL, c_pR, c_iald, c_ialg, c_iast, c_iasg, c_bald, c_bast, c_lald, c_last, c_aald, c_aals, c_aast, c_alen, c_bnd, c_str, c_bndl, c_bnln, c_sval, c_scod, c_sbal, c_sbln, c_fmt, c_stop, c_iret, c_zret, c_nret, c_aret, c_vret, c_lret, c_cpy, c_callV, c_callS, tkA, lget, lput, lkill, jpush, vsz, jcat, lins, lent, List.length_cons, List.length_nil, List.replicate, List.append_nil, List.cons_append, List.nil_append, reduceIte, Nat.reduceAdd, Nat.reduceSub, Nat.reduceEqDiff, true_and, and_true, Nat.reduceLeDiff, Nat.lt_irrefl, Nat.succ_ne_self, forall_const, ne_eq, not_true_eq_false, not_false_eq_true, false_implies, implies_true, true_implies, true_or, or_true, or_false, false_or, eq_self, Int.reduceEq, Int.reduceLT, Int.reduceLE, Int.reduceNeg, Int.reduceToNat, Int.reduceAdd, Int.reduceSub, Int.reduceMul, Int.reduceNe, and_self]
    refine ok_MO_isKingdom (K := K) q4 ?_
    rw [if_pos z1]
    simp only [c_ic, c_lc, c_nul, c_il, c_ll, c_al, c_is, c_ls, c_as, c_inc, c_b2, c_b2n, c_b1, c_d2, c_d2n, c_dsh, c_i2l, c_l2i, c_lcm, c_dup, c_dup2, c_pop, c_j1, c_j2, c_jn, c_sw0, c_sw, c_gI, c_gL, c_gR, c_gS, c_pI, c_pZ, c_pL, c_pR, c_iald, c_ialg, c_iast, c_iasg, c_bald, c_bast, c_lald, c_last, c_aald, c_aals, c_aast, c_alen, c_bnd, c_str, c_bndl, c_bnln, c_sval, c_scod, c_sbal, c_sbln, c_fmt, c_stop, c_iret, c_zret, c_nret, c_aret, c_vret, c_lret, c_cpy, c_callV, c_callS, tkA, lget, lput, lkill, jpush, vsz, jcat, lins, lent, List.length_cons, List.length_nil, List.replicate, List.append_nil, List.cons_append, List.nil_append, reduceIte, Nat.reduceAdd, Nat.reduceSub, Nat.reduceEqDiff, true_and, and_true, Nat.reduceLeDiff, Nat.lt_irrefl, Nat.succ_ne_self, forall_const, ne_eq, not_true_eq_false, not_false_eq_true, false_implies, implies_true, true_implies, true_or, or_true, or_false, false_or, eq_self, Int.reduceEq, Int.reduceLT, Int.reduceLE, Int.reduceNeg, Int.reduceToNat, Int.reduceAdd, Int.reduceSub, Int.reduceMul, Int.reduceNe, and_self]
    refine ⟨fun w => ?_, fun w => ?_⟩
    · exact key (10 ^ K) 0 _ (Nat.zero_add _) th_sc w
    · unfold pkS
      rw [if_neg (by omega), getI_neg _ _ (by omega)]
      exact ⟨rfl, hJ.sc th_sc⟩
theorem pr_truths {f i : Int} : Pr M_LB_truths M_MO_truths [.inl f, .inl i] := by
  intro σ q hJ
  obtain ⟨n, T, K, F, r, N, P, CL, PL, U, nt, rfl, hJx⟩ := id hJ
  obtain ⟨hT, hR, hW, hA, hI, hK, hM, hP, hN, hG⟩ := id hJx
  obtain ⟨q1, -, -, -, -, q4, q5, K4, F8, q6⟩ := id hR
  obtain ⟨hU, hb, hm⟩ := id hN
  refine Ct.ok (fun ha _ => ?_)
  have hi : inR i := ha i (by simp)
  refine i_LB_truths (Nat.le_refl 3) ?_
  simp only [w_LB_truths_24, w_LB_truths_23, w_LB_truths_0, c_ic, c_lc, c_nul, c_il, c_ll, c_al, c_is, c_ls, c_as, c_inc, c_b2, c_b2n, c_b1, c_d2, c_d2n, c_dsh, c_i2l, c_l2i, c_lcm, c_dup, c_dup2, c_pop, c_j1, c_j2, c_jn, c_sw0, c_sw, c_gI, c_gL, c_gR, c_gS, c_pI, c_pZ, c_pL, c_pR, c_iald, c_ialg, c_iast, c_iasg, c_bald, c_bast, c_lald, c_last, c_aald, c_aals, c_aast, c_alen, c_bnd, c_str, c_bndl, c_bnln, c_sval, c_scod, c_sbal, c_sbln, c_fmt, c_stop, c_iret, c_zret, c_nret, c_aret, c_vret, c_lret, c_cpy, c_callV, c_callS, tkA, lget, lput, lkill, jpush, vsz, jcat, lins, lent, List.length_cons, List.length_nil, List.replicate, List.append_nil, List.cons_append, List.nil_append, reduceIte, Nat.reduceAdd, Nat.reduceSub, Nat.reduceEqDiff, true_and, and_true, Nat.reduceLeDiff, Nat.lt_irrefl, Nat.succ_ne_self, forall_const, ne_eq, not_true_eq_false, not_false_eq_true, false_implies, implies_true, true_implies, true_or, or_true, or_false, false_or, eq_self, Int.reduceEq, Int.reduceLT, Int.reduceLE, Int.reduceNeg, Int.reduceToNat, Int.reduceAdd, Int.reduceSub, Int.reduceMul, Int.reduceNe, and_self]
  refine ok_LB_isField hR ?_
  simp only [c_ic, c_lc, c_nul, c_il, c_ll, c_al, c_is, c_ls, c_as, c_inc, c_b2, c_b2n, c_b1, c_d2, c_d2n, c_dsh, c_i2l, c_l2i, c_lcm, c_dup, c_dup2, c_pop, c_j1, c_j2, c_jn, c_sw0, c_sw, c_gI, c_gL, c_gR, c_gS, c_pI, c_pZ, c_pL, c_pR, c_iald, c_ialg, c_iast, c_iasg, c_bald, c_bast, c_lald, c_last, c_aald, c_aals, c_aast, c_alen, c_bnd, c_str, c_bndl, c_bnln, c_sval, c_scod, c_sbal, c_sbln, c_fmt, c_stop, c_iret, c_zret, c_nret, c_aret, c_vret, c_lret, c_cpy, c_callV, c_callS, tkA, lget, lput, lkill, jpush, vsz, jcat, lins, lent, List.length_cons, List.length_nil, List.replicate, List.append_nil, List.cons_append, List.nil_append, reduceIte, Nat.reduceAdd, Nat.reduceSub, Nat.reduceEqDiff, true_and, and_true, Nat.reduceLeDiff, Nat.lt_irrefl, Nat.succ_ne_self, forall_const, ne_eq, not_true_eq_false, not_false_eq_true, false_implies, implies_true, true_implies, true_or, or_true, or_false, false_or, eq_self, Int.reduceEq, Int.reduceLT, Int.reduceLE, Int.reduceNeg, Int.reduceToNat, Int.reduceAdd, Int.reduceSub, Int.reduceMul, Int.reduceNe, and_self]
  refine ⟨fun z => ⟨⟨_, rfl⟩, ?_⟩, fun z => ?_⟩
  · refine i_MO_truths (Nat.le_add_right 3 2) (fun At h25 => ?_)
    simp only [w_MO_truths_0, w_MO_truths_18, c_ic, c_lc, c_nul, c_il, c_ll, c_al, c_is, c_ls, c_as, c_inc, c_b2, c_b2n, c_b1, c_d2, c_d2n, c_dsh, c_i2l, c_l2i, c_lcm, c_dup, c_dup2, c_pop, c_j1, c_j2, c_jn, c_sw0, c_sw, c_gI, c_gL, c_gR, c_gS, c_pI, c_pZ, c_pL, c_pR, c_iald, c_ialg, c_iast, c_iasg, c_bald, c_bast, c_lald, c_last, c_aald, c_aals, c_aast, c_alen, c_bnd, c_str, c_bndl, c_bnln, c_sval, c_scod, c_sbal, c_sbln, c_fmt, c_stop, c_iret, c_zret, c_nret, c_aret, c_vret, c_lret, c_cpy, c_callV, c_callS, tkA, lget, lput, lkill, jpush, vsz, jcat, lins, lent, List.length_cons, List.length_nil, List.replicate, List.append_nil, List.cons_append, List.nil_append, reduceIte, Nat.reduceAdd, Nat.reduceSub, Nat.reduceEqDiff, true_and, and_true, Nat.reduceLeDiff, Nat.lt_irrefl, Nat.succ_ne_self, forall_const, ne_eq, not_true_eq_false, not_false_eq_true, false_implies, implies_true, true_implies, true_or, or_true, or_false, false_or, eq_self, Int.reduceEq, Int.reduceLT, Int.reduceLE, Int.reduceNeg, Int.reduceToNat, Int.reduceAdd, Int.reduceSub, Int.reduceMul, Int.reduceNe, and_self]
    refine ok_MO_isField (F := F) q5 ?_
    simp only [c_ic, c_lc, c_nul, c_il, c_ll, c_al, c_is, c_ls, c_as, c_inc, c_b2, c_b2n, c_b1, c_d2, c_d2n, c_dsh, c_i2l, c_l2i, c_lcm, c_dup, c_dup2, c_pop, c_j1, c_j2, c_jn, c_sw0, c_sw, c_gI, c_gL, c_gR, c_gS, c_pI, c_pZ, c_pL, c_pR, c_iald, c_ialg, c_iast, c_iasg, c_bald, c_bast, c_lald, c_last, c_aald, c_aals, c_aast, c_alen, c_bnd, c_str, c_bndl, c_bnln, c_sval, c_scod, c_sbal, c_sbln, c_fmt, c_stop, c_iret, c_zret, c_nret, c_aret, c_vret, c_lret, c_cpy, c_callV, c_callS, tkA, lget, lput, lkill, jpush, vsz, jcat, lins, lent, List.length_cons, List.length_nil, List.replicate, List.append_nil, List.cons_append, List.nil_append, reduceIte, Nat.reduceAdd, Nat.reduceSub, Nat.reduceEqDiff, true_and, and_true, Nat.reduceLeDiff, Nat.lt_irrefl, Nat.succ_ne_self, forall_const, ne_eq, not_true_eq_false, not_false_eq_true, false_implies, implies_true, true_implies, true_or, or_true, or_false, false_or, eq_self, Int.reduceEq, Int.reduceLT, Int.reduceLE, Int.reduceNeg, Int.reduceToNat, Int.reduceAdd, Int.reduceSub, Int.reduceMul, Int.reduceNe, and_self]
    exact ⟨fun _ => hJ.sc th_sc, fun w => absurd z w⟩
  · have z1 : 0 ≤ f ∧ f < F := Classical.byContradiction (fun q => z (if_neg q))
    obtain ⟨f, rfl⟩ := Int.eq_ofNat_of_zero_le z1.1
    refine ok_RU_truthsOf hU K4 (fun q hq => (hb q hq).1) (fun y y1 y3 => ?_)
    obtain ⟨y', w1, w2, w3⟩ := cvT_bits (f := f) K4 (fun q hq => (hb q hq).1)
    obtain rfl : y = y' := bits_eq y3 w3
    simp only [c_ic, c_lc, c_nul, c_il, c_ll, c_al, c_is, c_ls, c_as, c_inc, c_b2, c_b2n, c_b1, c_d2, c_d2n, c_dsh, c_i2l, c_l2i, c_lcm, c_dup, c_dup2, c_pop, c_j1, c_j2, c_jn, c_sw0, c_sw, c_gI, c_gL, c_gR, c_gS, c_pI, c_pZ, c_pL, c_pR, c_iald, c_ialg, c_iast, c_iasg, c_bald, c_bast, c_lald, c_last, c_aald, c_aals, c_aast, c_alen, c_bnd, c_str, c_bndl, c_bnln, c_sval, c_scod, c_sbal, c_sbln, c_fmt, c_stop, c_iret, c_zret, c_nret, c_aret, c_vret, c_lret, c_cpy, c_callV, c_callS, tkA, lget, lput, lkill, jpush, vsz, jcat, lins, lent, List.length_cons, List.length_nil, List.replicate, List.append_nil, List.cons_append, List.nil_append, reduceIte, Nat.reduceAdd, Nat.reduceSub, Nat.reduceEqDiff, true_and, and_true, Nat.reduceLeDiff, Nat.lt_irrefl, Nat.succ_ne_self, forall_const, ne_eq, not_true_eq_false, not_false_eq_true, false_implies, implies_true, true_implies, true_or, or_true, or_false, false_or, eq_self, Int.reduceEq, Int.reduceLT, Int.reduceLE, Int.reduceNeg, Int.reduceToNat, Int.reduceAdd, Int.reduceSub, Int.reduceMul, Int.reduceNe, and_self]
    refine ok_LB_pick (by omega) hi ?_
    simp only [c_ic, c_lc, c_nul, c_il, c_ll, c_al, c_is, c_ls, c_as, c_inc, c_b2, c_b2n, c_b1, c_d2, c_d2n, c_dsh, c_i2l, c_l2i, c_lcm, c_dup, c_dup2, c_pop, c_j1, c_j2, c_jn, c_sw0, c_sw, c_gI, c_gL, c_gR, c_gS, c_pI, c_pZ, c_pL, c_pR, c_iald, c_ialg, c_iast, c_iasg, c_bald, c_bast, c_lald, c_last, c_aald, c_aals, c_aast, c_alen, c_bnd, c_str, c_bndl, c_bnln, c_sval, c_scod, c_sbal, c_sbln, c_fmt, c_stop, c_iret, c_zret, c_nret, c_aret, c_vret, c_lret, c_cpy, c_callV, c_callS, tkA, lget, lput, lkill, jpush, vsz, jcat, lins, lent, List.length_cons, List.length_nil, List.replicate, List.append_nil, List.cons_append, List.nil_append, reduceIte, Nat.reduceAdd, Nat.reduceSub, Nat.reduceEqDiff, true_and, and_true, Nat.reduceLeDiff, Nat.lt_irrefl, Nat.succ_ne_self, forall_const, ne_eq, not_true_eq_false, not_false_eq_true, false_implies, implies_true, true_implies, true_or, or_true, or_false, false_or, eq_self, Int.reduceEq, Int.reduceLT, Int.reduceLE, Int.reduceNeg, Int.reduceToNat, Int.reduceAdd, Int.reduceSub, Int.reduceMul, Int.reduceNe, and_self]
    refine ⟨⟨_, rfl⟩, ?_⟩
    refine i_MO_truths (Nat.le_add_right 3 2) (fun At h25 => ?_)
    have hp := p10 K4
    have key : ∀ (m c : Nat) (τ : jM), c + m = 10 ^ K → Fr Sc σ τ → -1 ≤ i → At 25 [some (rf 10 0), some (.inl f), some (.inl i), some (.inl (orF (fun c => (cvT nt f c : Int)) c)), some (.inl c)] [] τ := by
      intro m
      induction m with
      | zero =>
        intro c τ hc t1 hi1
        refine h25 _ _ _ ?_
        have hJ1 := hJx.sc t1
        simp only [w_MO_truths_25, w_MO_truths_76, c_ic, c_lc, c_nul, c_il, c_ll, c_al, c_is, c_ls, c_as, c_inc, c_b2, c_b2n, c_b1, c_d2, c_d2n, c_dsh, c_i2l, c_l2i, c_lcm, c_dup, c_dup2, c_pop, c_j1, c_j2, c_jn, c_sw0, c_sw, c_gI, c_gL, c_gR, c_gS, c_pI, c_pZ, c_pL, c_pR, c_iald, c_ialg, c_iast, c_iasg, c_bald, c_bast, c_lald, c_last, c_aald, c_aals, c_aast, c_alen, c_bnd, c_str, c_bndl, c_bnln, c_sval, c_scod, c_sbal, c_sbln, c_fmt, c_stop, c_iret, c_zret, c_nret, c_aret, c_vret, c_lret, c_cpy, c_callV, c_callS, tkA, lget, lput, lkill, jpush, vsz, jcat, lins, lent, List.length_cons, List.length_nil, List.replicate, List.append_nil, List.cons_append, List.nil_append, reduceIte, Nat.reduceAdd, Nat.reduceSub, Nat.reduceEqDiff, true_and, and_true, Nat.reduceLeDiff, Nat.lt_irrefl, Nat.succ_ne_self, forall_const, ne_eq, not_true_eq_false, not_false_eq_true, false_implies, implies_true, true_implies, true_or, or_true, or_false, false_or, eq_self, Int.reduceEq, Int.reduceLT, Int.reduceLE, Int.reduceNeg, Int.reduceToNat, Int.reduceAdd, Int.reduceSub, Int.reduceMul, Int.reduceNe, and_self]
        refine ok_MO_codes hJ1.2.1.2.2.2.2.2.1 K4 ?_
        simp only [c_ic, c_lc, c_nul, c_il, c_ll, c_al, c_is, c_ls, c_as, c_inc, c_b2, c_b2n, c_b1, c_d2, c_d2n, c_dsh, c_i2l, c_l2i, c_lcm, c_dup, c_dup2, c_pop, c_j1, c_j2, c_jn, c_sw0, c_sw, c_gI, c_gL, c_gR, c_gS, c_pI, c_pZ, c_pL, c_pR, c_iald, c_ialg, c_iast, c_iasg, c_bald, c_bast, c_lald, c_last, c_aald, c_aals, c_aast, c_alen, c_bnd, c_str, c_bndl, c_bnln, c_sval, c_scod, c_sbal, c_sbln, c_fmt, c_stop, c_iret, c_zret, c_nret, c_aret, c_vret, c_lret, c_cpy, c_callV, c_callS, tkA, lget, lput, lkill, jpush, vsz, jcat, lins, lent, List.length_cons, List.length_nil, List.replicate, List.append_nil, List.cons_append, List.nil_append, reduceIte, Nat.reduceAdd, Nat.reduceSub, Nat.reduceEqDiff, true_and, and_true, Nat.reduceLeDiff, Nat.lt_irrefl, Nat.succ_ne_self, forall_const, ne_eq, not_true_eq_false, not_false_eq_true, false_implies, implies_true, true_implies, true_or, or_true, or_false, false_or, eq_self, Int.reduceEq, Int.reduceLT, Int.reduceLE, Int.reduceNeg, Int.reduceToNat, Int.reduceAdd, Int.reduceSub, Int.reduceMul, Int.reduceNe, and_self]
        refine ⟨fun _ => ?_, fun w => absurd w (by omega)⟩
        rw [show c = 10 ^ K by omega, w2]
        refine ok_MO_pick (by omega) hi1 ?_
        simp only [c_ic, c_lc, c_nul, c_il, c_ll, c_al, c_is, c_ls, c_as, c_inc, c_b2, c_b2n, c_b1, c_d2, c_d2n, c_dsh, c_i2l, c_l2i, c_lcm, c_dup, c_dup2, c_pop, c_j1, c_j2, c_jn, c_sw0, c_sw, c_gI, c_gL, c_gR, c_gS, c_pI, c_pZ, c_pL, c_pR, c_iald, c_ialg, c_iast, c_iasg, c_bald, c_bast, c_lald, c_last, c_aald, c_aals, c_aast, c_alen, c_bnd, c_str, c_bndl, c_bnln, c_sval, c_scod, c_sbal, c_sbln, c_fmt, c_stop, c_iret, c_zret, c_nret, c_aret, c_vret, c_lret, c_cpy, c_callV, c_callS, tkA, lget, lput, lkill, jpush, vsz, jcat, lins, lent, List.length_cons, List.length_nil, List.replicate, List.append_nil, List.cons_append, List.nil_append, reduceIte, Nat.reduceAdd, Nat.reduceSub, Nat.reduceEqDiff, true_and, and_true, Nat.reduceLeDiff, Nat.lt_irrefl, Nat.succ_ne_self, forall_const, ne_eq, not_true_eq_false, not_false_eq_true, false_implies, implies_true, true_implies, true_or, or_true, or_false, false_or, eq_self, Int.reduceEq, Int.reduceLT, Int.reduceLE, Int.reduceNeg, Int.reduceToNat, Int.reduceAdd, Int.reduceSub, Int.reduceMul, Int.reduceNe, and_self]
        rw [pk_21 (by omega)]
        exact ⟨rfl, n, T, K, F, r, N, P, CL, PL, U, nt, rfl, hJ1⟩
      | succ m ih =>
        intro c τ hc t1 hi1
        refine h25 _ _ _ ?_
        have hJ1 := hJx.sc t1
        simp only [w_MO_truths_25, c_ic, c_lc, c_nul, c_il, c_ll, c_al, c_is, c_ls, c_as, c_inc, c_b2, c_b2n, c_b1, c_d2, c_d2n, c_dsh, c_i2l, c_l2i, c_lcm, c_dup, c_dup2, c_pop, c_j1, c_j2, c_jn, c_sw0, c_sw, c_gI, c_gL, c_gR, c_gS, c_pI, c_pZ, c_pL, c_pR, c_iald, c_ialg, c_iast, c_iasg, c_bald, c_bast, c_lald, c_last, c_aald, c_aals, c_aast, c_alen, c_bnd, c_str, c_bndl, c_bnln, c_sval, c_scod, c_sbal, c_sbln, c_fmt, c_stop, c_iret, c_zret, c_nret, c_aret, c_vret, c_lret, c_cpy, c_callV, c_callS, tkA, lget, lput, lkill, jpush, vsz, jcat, lins, lent, List.length_cons, List.length_nil, List.replicate, List.append_nil, List.cons_append, List.nil_append, reduceIte, Nat.reduceAdd, Nat.reduceSub, Nat.reduceEqDiff, true_and, and_true, Nat.reduceLeDiff, Nat.lt_irrefl, Nat.succ_ne_self, forall_const, ne_eq, not_true_eq_false, not_false_eq_true, false_implies, implies_true, true_implies, true_or, or_true, or_false, false_or, eq_self, Int.reduceEq, Int.reduceLT, Int.reduceLE, Int.reduceNeg, Int.reduceToNat, Int.reduceAdd, Int.reduceSub, Int.reduceMul, Int.reduceNe, and_self]
        refine ok_MO_codes hJ1.2.1.2.2.2.2.2.1 K4 ?_
        simp only [c_ic, c_lc, c_nul, c_il, c_ll, c_al, c_is, c_ls, c_as, c_inc, c_b2, c_b2n, c_b1, c_d2, c_d2n, c_dsh, c_i2l, c_l2i, c_lcm, c_dup, c_dup2, c_pop, c_j1, c_j2, c_jn, c_sw0, c_sw, c_gI, c_gL, c_gR, c_gS, c_pI, c_pZ, c_pL, c_pR, c_iald, c_ialg, c_iast, c_iasg, c_bald, c_bast, c_lald, c_last, c_aald, c_aals, c_aast, c_alen, c_bnd, c_str, c_bndl, c_bnln, c_sval, c_scod, c_sbal, c_sbln, c_fmt, c_stop, c_iret, c_zret, c_nret, c_aret, c_vret, c_lret, c_cpy, c_callV, c_callS, tkA, lget, lput, lkill, jpush, vsz, jcat, lins, lent, List.length_cons, List.length_nil, List.replicate, List.append_nil, List.cons_append, List.nil_append, reduceIte, Nat.reduceAdd, Nat.reduceSub, Nat.reduceEqDiff, true_and, and_true, Nat.reduceLeDiff, Nat.lt_irrefl, Nat.succ_ne_self, forall_const, ne_eq, not_true_eq_false, not_false_eq_true, false_implies, implies_true, true_implies, true_or, or_true, or_false, false_or, eq_self, Int.reduceEq, Int.reduceLT, Int.reduceLE, Int.reduceNeg, Int.reduceToNat, Int.reduceAdd, Int.reduceSub, Int.reduceMul, Int.reduceNe, and_self]
        refine ⟨fun w => absurd w (by omega), fun _ => ?_⟩
        refine ok_MO_fitsAll hJ1.2.1.2.2.2.2.2.1 hJ1.2.1.2.2.2.2.2.2.1 K4 F8 hJ1.2.2.2.2.2.2.2.2.1.2.2 hU.1 hb (by omega) ?_
        have eo : orF (fun c => (cvT nt f c : Int)) (c + 1) = jor (orF (fun c => (cvT nt f c : Int)) c) (cvT nt f c : Int) := rfl
        have io := orF_in (fun c => (cvT nt f c : Int)) c
        cases hq : mfS nt (dg c) with
        | none =>
          intro υ u1
          have ec : cvT nt f c = 0 := by unfold cvT; rw [hq]
          have nx := ih (c + 1) υ (by omega) (t1.tr (u1.wk (fun _ _ _ q => q.c))) hi1
          rw [eo, ec, show ((0 : Nat) : Int) = 0 from rfl, jor_0 io] at nx
          simp only [w_MO_truths_70, c_ic, c_lc, c_nul, c_il, c_ll, c_al, c_is, c_ls, c_as, c_inc, c_b2, c_b2n, c_b1, c_d2, c_d2n, c_dsh, c_i2l, c_l2i, c_lcm, c_dup, c_dup2, c_pop, c_j1, c_j2, c_jn, c_sw0, c_sw, c_gI, c_gL, c_gR, c_gS, c_pI, c_pZ, c_pL, c_pR, c_iald, c_ialg, c_iast, c_iasg, c_bald, c_bast, c_lald, c_last, c_aald, c_aals, c_aast, c_alen, c_bnd, c_str, c_bndl, c_bnln, c_sval, c_scod, c_sbal, c_sbln, c_fmt, c_stop, c_iret, c_zret, c_nret, c_aret, c_vret, c_lret, c_cpy, c_callV, c_callS, tkA, lget, lput, lkill, jpush, vsz, jcat, lins, lent, List.length_cons, List.length_nil, List.replicate, List.append_nil, List.cons_append, List.nil_append, reduceIte, Nat.reduceAdd, Nat.reduceSub, Nat.reduceEqDiff, true_and, and_true, Nat.reduceLeDiff, Nat.lt_irrefl, Nat.succ_ne_self, forall_const, ne_eq, not_true_eq_false, not_false_eq_true, false_implies, implies_true, true_implies, true_or, or_true, or_false, false_or, eq_self, Int.reduceEq, Int.reduceLT, Int.reduceLE, Int.reduceNeg, Int.reduceToNat, Int.reduceAdd, Int.reduceSub, Int.reduceMul, Int.reduceNe, and_self, inc_nat (show c ≤ 100000 by omega)]
          exact nx
        | some t =>
          intro υ u1 u2 u3
          have ec : cvT nt f c = if t f = -1 then 2097151 else 2 ^ (t f).toNat := by unfold cvT; rw [hq]
          have nx := ih (c + 1) υ (by omega) (t1.tr (u1.wk (fun _ _ _ q => q.c))) hi1
          have tf : t f ≠ -1 → 0 ≤ t f ∧ t f ≤ 20 := by
            intro e
            obtain ⟨s1, s2, s3⟩ := mf1_st nt _ t hq
            refine Classical.byContradiction (fun hn => e (s3 f (fun q hq e2 => hn ?_)))
            have := s2 q hq
            rw [e2] at this
            omega
          simp only [w_MO_truths_60, w_MO_truths_68, w_MO_truths_70, c_ic, c_lc, c_nul, c_il, c_ll, c_al, c_is, c_ls, c_as, c_inc, c_b2, c_b2n, c_b1, c_d2, c_d2n, c_dsh, c_i2l, c_l2i, c_lcm, c_dup, c_dup2, c_pop, c_j1, c_j2, c_jn, c_sw0, c_sw, c_gI, c_gL, c_gR, c_gS, c_pI, c_pZ, c_pL, c_pR, c_iald, c_ialg, c_iast, c_iasg, c_bald, c_bast, c_lald, c_last, c_aald, c_aals, c_aast, c_alen, c_bnd, c_str, c_bndl, c_bnln, c_sval, c_scod, c_sbal, c_sbln, c_fmt, c_stop, c_iret, c_zret, c_nret, c_aret, c_vret, c_lret, c_cpy, c_callV, c_callS, tkA, lget, lput, lkill, jpush, vsz, jcat, lins, lent, List.length_cons, List.length_nil, List.replicate, List.append_nil, List.cons_append, List.nil_append, reduceIte, Nat.reduceAdd, Nat.reduceSub, Nat.reduceEqDiff, true_and, and_true, Nat.reduceLeDiff, Nat.lt_irrefl, Nat.succ_ne_self, forall_const, ne_eq, not_true_eq_false, not_false_eq_true, false_implies, implies_true, true_implies, true_or, or_true, or_false, false_or, eq_self, Int.reduceEq, Int.reduceLT, Int.reduceLE, Int.reduceNeg, Int.reduceToNat, Int.reduceAdd, Int.reduceSub, Int.reduceMul, Int.reduceNe, and_self, Int.toNat_natCast, u3 f (by omega), inc_nat (show c ≤ 100000 by omega)]
          refine ⟨⟨by omega, by omega⟩, fun w => ⟨⟨by omega, by omega⟩, ?_⟩, fun w => ?_⟩
          · have := tf w
            rw [eo, ec, if_neg w, ← jshl_two (by omega), Int.toNat_of_nonneg this.1] at nx
            exact nx
          · rw [eo, ec, if_pos (Classical.not_not.mp w)] at nx
            exact nx
    simp only [w_MO_truths_0, w_MO_truths_18, w_MO_truths_20, c_ic, c_lc, c_nul, c_il, c_ll, c_al, c_is, c_ls, c_as, c_inc, c_b2, c_b2n, c_b1, c_d2, c_d2n, c_dsh, c_i2l, c_l2i, c_lcm, c_dup, c_dup2, c_pop, c_j1, c_j2, c_jn, c_sw0, c_sw, c_gI, c_gL, c_gR, c_gS, c_pI, c_pZ, c_pL, c_pR, c_iald, c_ialg, c_iast, c_iasg, c_bald, c_bast, c_lald, c_last, c_aald, c_aals, c_aast, c_alen, c_bnd, c_str, c_bndl, c_bnln, c_sval, c_scod, c_sbal, c_sbln, c_fmt, c_stop, c_iret, c_zret, c_nret, c_aret, c_vret, c_lret, c_cpy, c_callV, c_callS, tkA, lget, lput, lkill, jpush, vsz, jcat, lins, lent, List.length_cons, List.length_nil, List.replicate, List.append_nil, List.cons_append, List.nil_append, reduceIte, Nat.reduceAdd, Nat.reduceSub, Nat.reduceEqDiff, true_and, and_true, Nat.reduceLeDiff, Nat.lt_irrefl, Nat.succ_ne_self, forall_const, ne_eq, not_true_eq_false, not_false_eq_true, false_implies, implies_true, true_implies, true_or, or_true, or_false, false_or, eq_self, Int.reduceEq, Int.reduceLT, Int.reduceLE, Int.reduceNeg, Int.reduceToNat, Int.reduceAdd, Int.reduceSub, Int.reduceMul, Int.reduceNe, and_self]
    refine ok_MO_isField (F := F) q5 ?_
    rw [if_pos z1]
    simp only [c_ic, c_lc, c_nul, c_il, c_ll, c_al, c_is, c_ls, c_as, c_inc, c_b2, c_b2n, c_b1, c_d2, c_d2n, c_dsh, c_i2l, c_l2i, c_lcm, c_dup, c_dup2, c_pop, c_j1, c_j2, c_jn, c_sw0, c_sw, c_gI, c_gL, c_gR, c_gS, c_pI, c_pZ, c_pL, c_pR, c_iald, c_ialg, c_iast, c_iasg, c_bald, c_bast, c_lald, c_last, c_aald, c_aals, c_aast, c_alen, c_bnd, c_str, c_bndl, c_bnln, c_sval, c_scod, c_sbal, c_sbln, c_fmt, c_stop, c_iret, c_zret, c_nret, c_aret, c_vret, c_lret, c_cpy, c_callV, c_callS, tkA, lget, lput, lkill, jpush, vsz, jcat, lins, lent, List.length_cons, List.length_nil, List.replicate, List.append_nil, List.cons_append, List.nil_append, reduceIte, Nat.reduceAdd, Nat.reduceSub, Nat.reduceEqDiff, true_and, and_true, Nat.reduceLeDiff, Nat.lt_irrefl, Nat.succ_ne_self, forall_const, ne_eq, not_true_eq_false, not_false_eq_true, false_implies, implies_true, true_implies, true_or, or_true, or_false, false_or, eq_self, Int.reduceEq, Int.reduceLT, Int.reduceLE, Int.reduceNeg, Int.reduceToNat, Int.reduceAdd, Int.reduceSub, Int.reduceMul, Int.reduceNe, and_self]
    refine ⟨fun w => ?_, fun w => ?_⟩
    · exact key (10 ^ K) 0 _ (Nat.zero_add _) th_sc w
    · unfold pkS
      rw [if_neg (by omega), getI_neg _ _ (by omega)]
      exact ⟨rfl, hJ.sc th_sc⟩
