/-! ===== 9d pairs: biases, truths ===== -/
section RUs
variable {σ : jM} {Φ : jPh} {d K F : Nat} {nt : List jN}
theorem ok_RU_biasesOf {k : Nat} (hU : UC σ K nt) (hK : K ≤ 4) (hk : k < K) (h : Φ (some (.inl (if sndS nt K = true then fitS nt k else 0))) σ) : Ct (d + 1) M_RU_biasesOf [rf 6 0, .inl k] σ Φ := by
  obtain ⟨u1, u2, u3, u4, u5⟩ := hU
  refine i_RU_biasesOf (Nat.le_refl 2) ?_
  simp only [w_RU_biasesOf_29, w_RU_biasesOf_28, w_RU_biasesOf_0, c_ic, c_lc, c_nul, c_il, c_ll, c_al, c_is, c_ls, c_as, c_inc, c_b2, c_b2n, c_b1, c_d2, c_d2n, c_dsh, c_i2l, c_l2i, c_lcm, c_dup, c_dup2, c_pop, c_j1, c_j2, c_jn, c_sw0, c_sw, c_gI, c_gL, c_gR, c_gS, c_pI, c_pZ, c_pL, c_pR, c_iald, c_ialg, c_iast, c_iasg, c_bald, c_bast, c_lald, c_last, c_aald, c_aals, c_aast, c_alen, c_bnd, c_str, c_bndl, c_bnln, c_sval, c_scod, c_sbal, c_sbln, c_fmt, c_stop, c_iret, c_zret, c_nret, c_aret, c_vret, c_lret, c_cpy, c_callV, c_callS, tkA, lget, lput, lkill, jpush, vsz, jcat, lins, lent, List.length_cons, List.length_nil, List.replicate, List.append_nil, List.cons_append, List.nil_append, reduceIte, Nat.reduceAdd, Nat.reduceSub, Nat.reduceEqDiff, true_and, and_true, Nat.reduceLeDiff, Nat.lt_irrefl, Nat.succ_ne_self, forall_const, ne_eq, not_true_eq_false, not_false_eq_true, false_implies, implies_true, true_implies, true_or, or_true, or_false, false_or, eq_self, Int.reduceEq, Int.reduceLT, Int.reduceLE, Int.reduceNeg, Int.reduceToNat, Int.reduceAdd, Int.reduceSub, Int.reduceMul, Int.reduceNe, and_self, u3, u5, Int.toNat_natCast, u4 k hk]
  by_cases z : sndS nt K = true
  · rw [if_pos z] at h
    simp only [if_pos z]
    exact ⟨fun w => absurd w (by decide), fun _ => ⟨fun w => absurd w (by omega), fun _ => ⟨fun w => absurd w (by omega), fun _ => ⟨⟨by omega, by omega⟩, h⟩⟩⟩⟩
  · rw [if_neg z] at h
    simp only [if_neg z]
    exact ⟨fun _ => h, fun w => absurd trivial w⟩
theorem ok_RU_firstOf {f : Nat} (hU : UC σ K nt) (h0 : (∀ q ∈ nt, q.2.1 ≠ f) → Φ (some (.inl (-1))) σ) (h1 : ∀ j, j < nt.length → (nt.getD j (0, 0, 0)).2.1 = f → Φ (some (.inl j)) σ) : Ct (d + 1) M_RU_firstOf [rf 6 0, .inl f] σ Φ := by
  obtain ⟨u1, u2, u3, u4, u5⟩ := hU
  have n10 := u1.1
  refine i_RU_firstOf (Nat.le_add_right 2 1) (fun At h2 => ?_)
  have key : ∀ (m i : Nat), i + m = nt.length → (∀ j, j < i → (nt.getD j (0, 0, 0)).2.1 ≠ f) → At 2 [some (rf 6 0), some (.inl f), some (.inl i)] [] σ := by
    intro m
    induction m with
    | zero =>
      intro i hi hj
      refine h2 _ _ _ ?_
      simp only [w_RU_firstOf_34, w_RU_firstOf_28, w_RU_firstOf_2, w_RU_firstOf_0, c_ic, c_lc, c_nul, c_il, c_ll, c_al, c_is, c_ls, c_as, c_inc, c_b2, c_b2n, c_b1, c_d2, c_d2n, c_dsh, c_i2l, c_l2i, c_lcm, c_dup, c_dup2, c_pop, c_j1, c_j2, c_jn, c_sw0, c_sw, c_gI, c_gL, c_gR, c_gS, c_pI, c_pZ, c_pL, c_pR, c_iald, c_ialg, c_iast, c_iasg, c_bald, c_bast, c_lald, c_last, c_aald, c_aals, c_aast, c_alen, c_bnd, c_str, c_bndl, c_bnln, c_sval, c_scod, c_sbal, c_sbln, c_fmt, c_stop, c_iret, c_zret, c_nret, c_aret, c_vret, c_lret, c_cpy, c_callV, c_callS, tkA, lget, lput, lkill, jpush, vsz, jcat, lins, lent, List.length_cons, List.length_nil, List.replicate, List.append_nil, List.cons_append, List.nil_append, reduceIte, Nat.reduceAdd, Nat.reduceSub, Nat.reduceEqDiff, true_and, and_true, Nat.reduceLeDiff, Nat.lt_irrefl, Nat.succ_ne_self, forall_const, ne_eq, not_true_eq_false, not_false_eq_true, false_implies, implies_true, true_implies, true_or, or_true, or_false, false_or, eq_self, Int.reduceEq, Int.reduceLT, Int.reduceLE, Int.reduceNeg, Int.reduceToNat, Int.reduceAdd, Int.reduceSub, Int.reduceMul, Int.reduceNe, and_self, u2.1]
      refine ⟨fun _ => h0 (fun q hq => ?_), fun w => absurd w (by omega)⟩
      obtain ⟨j, hj1, hj2⟩ := List.getElem_of_mem hq
      have := hj j (by omega)
      rw [List.getD_eq_getElem?_getD, List.getElem?_eq_getElem hj1] at this
      rw [← hj2]
      exact this
    | succ m ih =>
      intro i hi hj
      refine h2 _ _ _ ?_
      have c35 := (u2.2 i (by omega)).2.1
      simp only [w_RU_firstOf_34, w_RU_firstOf_28, w_RU_firstOf_2, w_RU_firstOf_0, c_ic, c_lc, c_nul, c_il, c_ll, c_al, c_is, c_ls, c_as, c_inc, c_b2, c_b2n, c_b1, c_d2, c_d2n, c_dsh, c_i2l, c_l2i, c_lcm, c_dup, c_dup2, c_pop, c_j1, c_j2, c_jn, c_sw0, c_sw, c_gI, c_gL, c_gR, c_gS, c_pI, c_pZ, c_pL, c_pR, c_iald, c_ialg, c_iast, c_iasg, c_bald, c_bast, c_lald, c_last, c_aald, c_aals, c_aast, c_alen, c_bnd, c_str, c_bndl, c_bnln, c_sval, c_scod, c_sbal, c_sbln, c_fmt, c_stop, c_iret, c_zret, c_nret, c_aret, c_vret, c_lret, c_cpy, c_callV, c_callS, tkA, lget, lput, lkill, jpush, vsz, jcat, lins, lent, List.length_cons, List.length_nil, List.replicate, List.append_nil, List.cons_append, List.nil_append, reduceIte, Nat.reduceAdd, Nat.reduceSub, Nat.reduceEqDiff, true_and, and_true, Nat.reduceLeDiff, Nat.lt_irrefl, Nat.succ_ne_self, forall_const, ne_eq, not_true_eq_false, not_false_eq_true, false_implies, implies_true, true_implies, true_or, or_true, or_false, false_or, eq_self, Int.reduceEq, Int.reduceLT, Int.reduceLE, Int.reduceNeg, Int.reduceToNat, Int.reduceAdd, Int.reduceSub, Int.reduceMul, Int.reduceNe, and_self, u2.1, Int.toNat_natCast, c35, inc_nat (show i ≤ 100000 by omega)]
      refine ⟨fun w => absurd w (by omega), fun _ => ⟨fun w => absurd w (by omega), fun _ => ⟨⟨by omega, by omega⟩, fun w => ?_, fun w => ?_⟩⟩⟩
      · refine ih (i + 1) (by omega) (fun j hj' => ?_)
        by_cases z : j = i
        · rw [z]; omega
        · exact hj j (by omega)
      · exact h1 i (by omega) (by omega)
  simp only [w_RU_firstOf_0, c_ic, c_lc, c_nul, c_il, c_ll, c_al, c_is, c_ls, c_as, c_inc, c_b2, c_b2n, c_b1, c_d2, c_d2n, c_dsh, c_i2l, c_l2i, c_lcm, c_dup, c_dup2, c_pop, c_j1, c_j2, c_jn, c_sw0, c_sw, c_gI, c_gL, c_gR, c_gS, c_pI, c_pZ, c_pL, c_pR, c_iald, c_ialg, c_iast, c_iasg, c_bald, c_bast, c_lald, c_last, c_aald, c_aals, c_aast, c_alen, c_bnd, c_str, c_bndl, c_bnln, c_sval, c_scod, c_sbal, c_sbln, c_fmt, c_stop, c_iret, c_zret, c_nret, c_aret, c_vret, c_lret, c_cpy, c_callV, c_callS, tkA, lget, lput, lkill, jpush, vsz, jcat, lins, lent, List.length_cons, List.length_nil, List.replicate, List.append_nil, List.cons_append, List.nil_append, reduceIte, Nat.reduceAdd, Nat.reduceSub, Nat.reduceEqDiff, true_and, and_true, Nat.reduceLeDiff, Nat.lt_irrefl, Nat.succ_ne_self, forall_const, ne_eq, not_true_eq_false, not_false_eq_true, false_implies, implies_true, true_implies, true_or, or_true, or_false, false_or, eq_self, Int.reduceEq, Int.reduceLT, Int.reduceLE, Int.reduceNeg, Int.reduceToNat, Int.reduceAdd, Int.reduceSub, Int.reduceMul, Int.reduceNe, and_self]
  exact key nt.length 0 (Nat.zero_add _) (fun j hj => absurd hj (by omega))
/-- the biases, the truths that go with all that was told -/
def BiM (nt : List jN) (K k g : Nat) : Prop := ∃ b t : Nat → Int, AgA nt b t ∧ (∀ w, w < K → 0 ≤ b w ∧ b w ≤ 9) ∧ b k = g
def TrM (nt : List jN) (K f g : Nat) : Prop := ∃ b t : Nat → Int, AgA nt b t ∧ (∀ w, w < K → 0 ≤ b w ∧ b w ≤ 9) ∧ (((∀ q ∈ nt, q.2.1 ≠ f) ∧ g ≤ 20) ∨ ((∃ q ∈ nt, q.2.1 = f) ∧ t f = g))
theorem bi_iff {k g : Nat} (hl : NOK nt) (hK : K ≤ 4) (hk : k < K) (hq : ∀ q ∈ nt, q.1 < K) : BiM nt K k g ↔ (Snd nt K ∧ g < 10 ∧ ∃ x, fol nt k g = some x) := by
  constructor
  · rintro ⟨b, t, ha, hb, e⟩
    have hbk := hb k hk
    obtain ⟨y, hy, -⟩ := fol_le ha k
    rw [e] at hy
    exact ⟨snd_of ha hb, by omega, y, hy⟩
  · rintro ⟨hs, hg, x, hx⟩
    obtain ⟨e, c, b⟩ := fol_st hl (by omega) (g := g) (by omega) hx
    obtain ⟨b', t', h1, h2, h3⟩ := fit_of hl hK hq hs c b
    exact ⟨b', t', h1, h2, by have q := h3.1 k (by rw [e]; omega); rw [e] at q; exact q⟩
theorem bi_bits {k : Nat} (hl : NOK nt) (hK : K ≤ 4) (hk : k < K) (hq : ∀ q ∈ nt, q.1 < K) : ∃ y : Nat, y < 1024 ∧ (if sndS nt K = true then fitS nt k else 0) = (y : Int) ∧ ∀ g : Nat, y.testBit g = true ↔ BiM nt K k g := by
  obtain ⟨y, h1, h2, h3⟩ := fitS_b nt k
  by_cases z : sndS nt K = true
  · refine ⟨y, h1, by rw [if_pos z]; exact h2, fun g => ?_⟩
    rw [h3, bi_iff hl hK hk hq]
    exact ⟨fun h => ⟨(sndS_iff K).mp z, h⟩, fun h => h.2⟩
  · refine ⟨0, by decide, by rw [if_neg z]; rfl, fun g => ?_⟩
    rw [bi_iff hl hK hk hq]
    constructor
    · intro h; simp at h
    · rintro ⟨hs, -⟩; exact absurd ((sndS_iff K).mpr hs) z
theorem ok_RU_truthsOf {f : Nat} (hU : UC σ K nt) (hK : K ≤ 4) (hq : ∀ q ∈ nt, q.1 < K) (h : ∀ y : Nat, y < 2097152 → (∀ g : Nat, y.testBit g = true ↔ TrM nt K f g) → Φ (some (.inl y)) σ) : Ct (d + 2) M_RU_truthsOf [rf 6 0, .inl f] σ Φ := by
  obtain ⟨u1, u2, u3, u4, u5⟩ := id hU
  have n10 := u1.1
  refine i_RU_truthsOf (Nat.le_add_right 2 4) (fun At h28 => ?_)
  simp only [w_RU_truthsOf_0, w_RU_truthsOf_9, w_RU_truthsOf_23, c_ic, c_lc, c_nul, c_il, c_ll, c_al, c_is, c_ls, c_as, c_inc, c_b2, c_b2n, c_b1, c_d2, c_d2n, c_dsh, c_i2l, c_l2i, c_lcm, c_dup, c_dup2, c_pop, c_j1, c_j2, c_jn, c_sw0, c_sw, c_gI, c_gL, c_gR, c_gS, c_pI, c_pZ, c_pL, c_pR, c_iald, c_ialg, c_iast, c_iasg, c_bald, c_bast, c_lald, c_last, c_aald, c_aals, c_aast, c_alen, c_bnd, c_str, c_bndl, c_bnln, c_sval, c_scod, c_sbal, c_sbln, c_fmt, c_stop, c_iret, c_zret, c_nret, c_aret, c_vret, c_lret, c_cpy, c_callV, c_callS, tkA, lget, lput, lkill, jpush, vsz, jcat, lins, lent, List.length_cons, List.length_nil, List.replicate, List.append_nil, List.cons_append, List.nil_append, reduceIte, Nat.reduceAdd, Nat.reduceSub, Nat.reduceEqDiff, true_and, and_true, Nat.reduceLeDiff, Nat.lt_irrefl, Nat.succ_ne_self, forall_const, ne_eq, not_true_eq_false, not_false_eq_true, false_implies, implies_true, true_implies, true_or, or_true, or_false, false_or, eq_self, Int.reduceEq, Int.reduceLT, Int.reduceLE, Int.reduceNeg, Int.reduceToNat, Int.reduceAdd, Int.reduceSub, Int.reduceMul, Int.reduceNe, and_self, u5]
  refine ⟨fun z => ?_, fun z => ?_⟩
  rotate_left
  · refine h 0 (by decide) (fun g => ?_)
    have z : ¬ sndS nt K = true := fun q => z (by rw [if_pos q]; decide)
    constructor
    · intro q; simp at q
    · rintro ⟨b, t, ha, hb, -⟩
      exact absurd ((sndS_iff K).mpr (snd_of ha hb)) z
  have z : sndS nt K = true := Classical.byContradiction (fun q => z (if_neg q))
  have hs : Snd nt K := (sndS_iff K).mp z
  refine ok_RU_firstOf hU (fun hn => ?_) (fun j hj hjf => ?_)
  · simp only [c_ic, c_lc, c_nul, c_il, c_ll, c_al, c_is, c_ls, c_as, c_inc, c_b2, c_b2n, c_b1, c_d2, c_d2n, c_dsh, c_i2l, c_l2i, c_lcm, c_dup, c_dup2, c_pop, c_j1, c_j2, c_jn, c_sw0, c_sw, c_gI, c_gL, c_gR, c_gS, c_pI, c_pZ, c_pL, c_pR, c_iald, c_ialg, c_iast, c_iasg, c_bald, c_bast, c_lald, c_last, c_aald, c_aals, c_aast, c_alen, c_bnd, c_str, c_bndl, c_bnln, c_sval, c_scod, c_sbal, c_sbln, c_fmt, c_stop, c_iret, c_zret, c_nret, c_aret, c_vret, c_lret, c_cpy, c_callV, c_callS, tkA, lget, lput, lkill, jpush, vsz, jcat, lins, lent, List.length_cons, List.length_nil, List.replicate, List.append_nil, List.cons_append, List.nil_append, reduceIte, Nat.reduceAdd, Nat.reduceSub, Nat.reduceEqDiff, true_and, and_true, Nat.reduceLeDiff, Nat.lt_irrefl, Nat.succ_ne_self, forall_const, ne_eq, not_true_eq_false, not_false_eq_true, false_implies, implies_true, true_implies, true_or, or_true, or_false, false_or, eq_self, Int.reduceEq, Int.reduceLT, Int.reduceLE, Int.reduceNeg, Int.reduceToNat, Int.reduceAdd, Int.reduceSub, Int.reduceMul, Int.reduceNe, and_self]
    refine h 2097151 (by decide) (fun g => ?_)
    rw [show (2097151 : Nat) = 2 ^ 21 - 1 by decide, Nat.testBit_two_pow_sub_one]
    constructor
    · intro q
      have q : g < 21 := of_decide_eq_true q
      obtain ⟨b', t', h1, h2, -⟩ := fit_of u1 hK hq hs (x := (fun _ => -1, fun _ => -1)) (fun q hq => Or.inl ⟨rfl, rfl⟩) ⟨fun w => show (-1 : Int) ≤ -1 ∧ (-1 : Int) ≤ 9 by decide, fun w => show (-1 : Int) ≤ -1 ∧ (-1 : Int) ≤ 20 by decide⟩
      exact ⟨b', t', h1, h2, Or.inl ⟨hn, by omega⟩⟩
    · rintro ⟨b, t, ha, hb, q | ⟨⟨p, hp, e⟩, -⟩⟩
      · exact decide_eq_true (by omega)
      · exact absurd e (hn p hp)
  · have hm := getD_mem hj
    obtain ⟨c34, c35, c36⟩ := u2.2 j hj
    obtain ⟨r1, r2, r3⟩ := u1.2 _ hm
    have r0 := hq _ hm
    generalize nt.getD j (0, 0, 0) = q at *
    obtain ⟨w, f', n⟩ := q
    simp only at c34 c35 c36 r0 r1 r2 r3 hjf
    subst hjf
    obtain ⟨fw, fw1, fw2, fw3⟩ := fitS_b nt w
    obtain ⟨n, rfl⟩ := Int.eq_ofNat_of_zero_le r3.1
    have c39 : σ.1 39 0 w = fw := by rw [u4 w r0, fw2]
    simp only [c_ic, c_lc, c_nul, c_il, c_ll, c_al, c_is, c_ls, c_as, c_inc, c_b2, c_b2n, c_b1, c_d2, c_d2n, c_dsh, c_i2l, c_l2i, c_lcm, c_dup, c_dup2, c_pop, c_j1, c_j2, c_jn, c_sw0, c_sw, c_gI, c_gL, c_gR, c_gS, c_pI, c_pZ, c_pL, c_pR, c_iald, c_ialg, c_iast, c_iasg, c_bald, c_bast, c_lald, c_last, c_aald, c_aals, c_aast, c_alen, c_bnd, c_str, c_bndl, c_bnln, c_sval, c_scod, c_sbal, c_sbln, c_fmt, c_stop, c_iret, c_zret, c_nret, c_aret, c_vret, c_lret, c_cpy, c_callV, c_callS, tkA, lget, lput, lkill, jpush, vsz, jcat, lins, lent, List.length_cons, List.length_nil, List.replicate, List.append_nil, List.cons_append, List.nil_append, reduceIte, Nat.reduceAdd, Nat.reduceSub, Nat.reduceEqDiff, true_and, and_true, Nat.reduceLeDiff, Nat.lt_irrefl, Nat.succ_ne_self, forall_const, ne_eq, not_true_eq_false, not_false_eq_true, false_implies, implies_true, true_implies, true_or, or_true, or_false, false_or, eq_self, Int.reduceEq, Int.reduceLT, Int.reduceLE, Int.reduceNeg, Int.reduceToNat, Int.reduceAdd, Int.reduceSub, Int.reduceMul, Int.reduceNe, and_self]
    refine ⟨fun _ => ?_, fun w => absurd (Classical.not_not.mp w) (by omega)⟩
    -- the value of a bias
    have bv : ∀ b : Nat, bt (fw : Int) b = if fw.testBit b = true then 1 else 0 := by
      intro b
      rw [btn]
      by_cases q : fw.testBit b = true
      · rw [if_pos q]
        rw [Nat.testBit_eq_decide_div_mod_eq] at q
        have := of_decide_eq_true q
        omega
      · rw [if_neg q]
        rw [Nat.testBit_eq_decide_div_mod_eq] at q
        have : ¬ (fw / 2 ^ b % 2 = 1) := fun e => q (decide_eq_true e)
        omega
    let u : Nat → Nat := fun b => if fw.testBit b = true ∧ b ≤ n then 2 ^ (n - b) else 0
    obtain ⟨y, y1, y2, y3⟩ := orN (u := u) (m := 30) (by decide) 10 (fun i hi => by
      show (if fw.testBit i = true ∧ i ≤ n then 2 ^ (n - i) else 0) < 2 ^ 30
      split
      · exact Nat.pow_lt_pow_right (by decide) (by omega)
      · exact Nat.pow_pos (by decide))
    have key : ∀ (m b : Nat) (x : Option jV), b + m = 10 → Φ (some (.inl (orF (fun i => (u i : Int)) 10))) σ → At 28 [some (rf 6 0), some (.inl f'), some (.inl j), some (.inl (orF (fun i => (u i : Int)) b)), some (.inl b), x] [] σ := by
      intro m
      induction m with
      | zero =>
        intro b x hb hp
        refine h28 _ _ _ ?_
        simp only [w_RU_truthsOf_28, w_RU_truthsOf_102, c_ic, c_lc, c_nul, c_il, c_ll, c_al, c_is, c_ls, c_as, c_inc, c_b2, c_b2n, c_b1, c_d2, c_d2n, c_dsh, c_i2l, c_l2i, c_lcm, c_dup, c_dup2, c_pop, c_j1, c_j2, c_jn, c_sw0, c_sw, c_gI, c_gL, c_gR, c_gS, c_pI, c_pZ, c_pL, c_pR, c_iald, c_ialg, c_iast, c_iasg, c_bald, c_bast, c_lald, c_last, c_aald, c_aals, c_aast, c_alen, c_bnd, c_str, c_bndl, c_bnln, c_sval, c_scod, c_sbal, c_sbln, c_fmt, c_stop, c_iret, c_zret, c_nret, c_aret, c_vret, c_lret, c_cpy, c_callV, c_callS, tkA, lget, lput, lkill, jpush, vsz, jcat, lins, lent, List.length_cons, List.length_nil, List.replicate, List.append_nil, List.cons_append, List.nil_append, reduceIte, Nat.reduceAdd, Nat.reduceSub, Nat.reduceEqDiff, true_and, and_true, Nat.reduceLeDiff, Nat.lt_irrefl, Nat.succ_ne_self, forall_const, ne_eq, not_true_eq_false, not_false_eq_true, false_implies, implies_true, true_implies, true_or, or_true, or_false, false_or, eq_self, Int.reduceEq, Int.reduceLT, Int.reduceLE, Int.reduceNeg, Int.reduceToNat, Int.reduceAdd, Int.reduceSub, Int.reduceMul, Int.reduceNe, and_self]
        refine ⟨fun _ => ?_, fun w => absurd w (by omega)⟩
        obtain rfl : b = 10 := by omega
        exact hp
      | succ m ih =>
        intro b x hb hp
        refine h28 _ _ _ ?_
        have nx := fun x => ih (b + 1) x (by omega) hp
        have eo : orF (fun i => (u i : Int)) (b + 1) = jor (orF (fun i => (u i : Int)) b) (u b : Int) := rfl
        have eu : u b = if fw.testBit b = true ∧ b ≤ n then 2 ^ (n - b) else 0 := rfl
        have eb : jand (jshr (fw : Int) (b : Int)) 1 = bt fw b := jbt2 (by omega) (by omega)
        simp only [w_RU_truthsOf_28, w_RU_truthsOf_70, w_RU_truthsOf_71, w_RU_truthsOf_93, w_RU_truthsOf_94, c_ic, c_lc, c_nul, c_il, c_ll, c_al, c_is, c_ls, c_as, c_inc, c_b2, c_b2n, c_b1, c_d2, c_d2n, c_dsh, c_i2l, c_l2i, c_lcm, c_dup, c_dup2, c_pop, c_j1, c_j2, c_jn, c_sw0, c_sw, c_gI, c_gL, c_gR, c_gS, c_pI, c_pZ, c_pL, c_pR, c_iald, c_ialg, c_iast, c_iasg, c_bald, c_bast, c_lald, c_last, c_aald, c_aals, c_aast, c_alen, c_bnd, c_str, c_bndl, c_bnln, c_sval, c_scod, c_sbal, c_sbln, c_fmt, c_stop, c_iret, c_zret, c_nret, c_aret, c_vret, c_lret, c_cpy, c_callV, c_callS, tkA, lget, lput, lkill, jpush, vsz, jcat, lins, lent, List.length_cons, List.length_nil, List.replicate, List.append_nil, List.cons_append, List.nil_append, reduceIte, Nat.reduceAdd, Nat.reduceSub, Nat.reduceEqDiff, true_and, and_true, Nat.reduceLeDiff, Nat.lt_irrefl, Nat.succ_ne_self, forall_const, ne_eq, not_true_eq_false, not_false_eq_true, false_implies, implies_true, true_implies, true_or, or_true, or_false, false_or, eq_self, Int.reduceEq, Int.reduceLT, Int.reduceLE, Int.reduceNeg, Int.reduceToNat, Int.reduceAdd, Int.reduceSub, Int.reduceMul, Int.reduceNe, and_self, Int.toNat_natCast, c34, c36, c39, eb, bv, inc_nat (show b ≤ 100000 by omega)]
        refine ⟨fun w => absurd w (by omega), fun _ => ⟨⟨by omega, by omega⟩, ⟨by omega, by omega⟩, fun w => ?_, fun w => ⟨⟨by omega, by omega⟩, fun w2 => ?_, fun w2 => ⟨⟨by omega, by omega⟩, ?_⟩⟩⟩⟩
        · have q : ¬ fw.testBit b = true := fun q => w (by rw [if_pos q])
          have := nx (some (.inl 0))
          rw [eo, eu, if_neg (fun e => q e.1)] at this
          exact this
        · have := nx (some (.inl 0))
          rw [eo, eu, if_neg (fun e => by omega)] at this
          exact this
        · have q : fw.testBit b = true := Classical.byContradiction (fun q => w (by rw [if_neg q]; decide))
          have := nx (some (.inl 1))
          rw [eo, eu, if_pos ⟨q, by omega⟩, ← jshl_two (by omega)] at this
          rw [wr_id (by omega) (by omega), show (n : Int) - (b : Int) = ((n - b : Nat) : Int) by omega]
          exact this
    refine key 10 0 none rfl ?_
    rw [y2]
    have ch : ∀ g : Nat, y.testBit g = true ↔ TrM nt K f' g := by
      intro g
      rw [y3]
      constructor
      · rintro ⟨i, hi, e⟩
        have e : (if fw.testBit i = true ∧ i ≤ n then 2 ^ (n - i) else 0).testBit g = true := e
        split at e
        · rename_i hz
          rw [Nat.testBit_two_pow] at e
          have e : n - i = g := of_decide_eq_true e
          obtain ⟨-, x, hx⟩ := (fw3 i).mp hz.1
          obtain ⟨e1, c1, b1⟩ := fol_st u1 r1 (g := i) (by omega) hx
          obtain ⟨b', t', h1, h2, h3⟩ := fit_of u1 hK hq hs c1 b1
          refine ⟨b', t', h1, h2, Or.inr ⟨⟨_, hm, rfl⟩, ?_⟩⟩
          have ha := h1 _ hm
          have hb' : b' w = i := by have q := h3.1 w (by rw [e1]; omega); rw [e1] at q; exact q
          simp only at ha
          omega
        · simp at e
      · rintro ⟨b, t, ha, hb, ⟨q, -⟩ | ⟨-, e⟩⟩
        · exact absurd rfl (q _ hm)
        · have ha2 := ha _ hm
          have hbw := hb w r0
          simp only at ha2
          obtain ⟨x, hx, -⟩ := fol_le ha w
          refine ⟨(b w).toNat, by omega, ?_⟩
          have hbit : fw.testBit (b w).toNat = true := (fw3 _).mpr ⟨by omega, x, by rw [Int.toNat_of_nonneg hbw.1]; exact hx⟩
          show (if fw.testBit (b w).toNat = true ∧ (b w).toNat ≤ n then 2 ^ (n - (b w).toNat) else 0).testBit g = true
          rw [if_pos ⟨hbit, by omega⟩, Nat.testBit_two_pow]
          exact decide_eq_true (by omega)
    refine h y ?_ ch
    refine Nat.lt_pow_two_of_testBit y (n := 21) (fun i hi => ?_)
    by_cases q : y.testBit i = true
    · obtain ⟨b, t, ha, hb, ⟨-, e⟩ | ⟨⟨p, hp, e1⟩, e2⟩⟩ := (ch i).mp q
      · omega
      · have := ha p hp
        rw [e1, e2] at this
        omega
    · exact Bool.eq_false_iff.mpr q
end RUs
