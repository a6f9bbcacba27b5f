/-! ===== 55 the model: goThrough ===== -/
theorem m_ext {σ τ : jM} (h : ∀ k j o, σ.1 k j o = τ.1 k j o) (h2 : σ.2 = τ.2) : σ = τ := by
  obtain ⟨a, b⟩ := σ
  obtain ⟨c, d⟩ := τ
  have : a = c := by funext k j o; exact h k j o
  simp only at h2
  rw [this, h2]
/-- as goThrough begins -/
def gt (σ : jM) (w b0 n : Nat) : jM := sI (sI (sI (sI (sI (sR σ 10 0 5 (some w)) 10 0 8 b0) 10 0 9 n) 10 0 13 121) 10 0 17 0) 10 0 14 0
theorem fsA {σ : jM} {o : Option Int} {k j p : Nat} (h : ¬ (k = 10 ∧ j = 0 ∧ (p = 14 ∨ p = 17))) : (fs σ o).1 k j p = σ.1 k j p := by
  unfold fs
  split
  · rfl
  · split
    · simp only [g_sI]
      rw [if_neg (by omega), if_neg (by omega)]
    · rfl
theorem fs_2 {σ : jM} {o : Option Int} : (fs σ o).2 = σ.2 := by
  unfold fs
  split
  · rfl
  · split <;> rfl
theorem fs_fs {σ : jM} {o o2 : Option Int} (h : σ.1 10 0 17 = 0) : fs (fs σ o) o2 = fs σ (or2 o o2) := by
  cases o with
  | none => rfl
  | some v =>
    simp only [or2]
    have : (fs σ (some v)).1 10 0 17 = 1 := by
      simp only [fs, if_pos h]
      rfl
    cases o2 with
    | none => rfl
    | some u =>
      show (if (fs σ (some v)).1 10 0 17 = 0 then sI (sI (fs σ (some v)) 10 0 17 1) 10 0 14 u else fs σ (some v)) = fs σ (some v)
      rw [this]
      rfl
theorem fs_14 {σ : jM} {o : Option Int} (h : σ.1 10 0 17 = 0) (h2 : σ.1 10 0 14 = 0) : (fs σ o).1 10 0 14 = o.getD 0 := by
  cases o with
  | none => exact h2
  | some v => simp only [fs, if_pos h]; rfl
theorem MB.fS {σ : jM} {w b0 n : Nat} {T : Nat → Int} {o : Option Int} (H : MB σ w b0 n T) : MB (fs σ o) w b0 n T := by
  refine ⟨H.n240, by rw [fs_2]; exact H.tx, by rw [fsA (by omega)]; exact H.bg, H.rm, H.b9, by rw [fsA (by omega)]; exact H.en, fun i hi => by rw [fsA (by omega)]; exact H.by8 i hi, H.sg8⟩
theorem EL.fS {σ : jM} {e : Nat → Int} {o : Option Int} (H : EL σ e) : EL (fs σ o) e := fun k hk => by rw [fsA (by omega)]; exact H k hk
theorem ok_MO_starts {σ : jM} {Φ : jPh} {d w b0 n : Nat} (h : Φ none (sI (sI (sI (sI (sR σ 10 0 5 (some w)) 10 0 8 b0) 10 0 9 n) 10 0 10 0) 10 0 11 (-1))) : Ct (d + 1) M_MO_starts [rf 10 0, rf 60 w, .inl b0, .inl n] σ Φ := by
  refine i_MO_starts (Nat.le_refl 4) ?_
  simp only [w_MO_starts_0, c_ic, c_lc, c_nul, c_il, c_ll, c_al, c_is, c_ls, c_as, c_inc, c_b2, c_b2n, c_b1, c_d2, c_d2n, c_dsh, c_i2l, c_l2i, c_lcm, c_dup, c_dup2, c_pop, c_j1, c_j2, c_jn, c_sw0, c_sw, c_gI, c_gL, c_gR, c_gS, c_pI, c_pZ, c_pL, c_pR, c_iald, c_ialg, c_iast, c_iasg, c_bald, c_bast, c_lald, c_last, c_aald, c_aals, c_aast, c_alen, c_bnd, c_str, c_bndl, c_bnln, c_sval, c_scod, c_sbal, c_sbln, c_fmt, c_stop, c_iret, c_zret, c_nret, c_aret, c_vret, c_lret, c_cpy, c_callV, c_callS, tkA, lget, lput, lkill, jpush, vsz, jcat, lins, lent, List.length_cons, List.length_nil, List.replicate, List.append_nil, List.cons_append, List.nil_append, reduceIte, Nat.reduceAdd, Nat.reduceSub, Nat.reduceEqDiff, true_and, and_true, Nat.reduceLeDiff, Nat.lt_irrefl, Nat.succ_ne_self, forall_const, ne_eq, not_true_eq_false, not_false_eq_true, false_implies, implies_true, true_implies, true_or, or_true, or_false, false_or, eq_self, Int.reduceEq, Int.reduceLT, Int.reduceLE, Int.reduceNeg, Int.reduceToNat, Int.reduceAdd, Int.reduceSub, Int.reduceMul, Int.reduceNe, and_self]
  exact h
/-- the text is that of a row -/
def TX (σ : jM) (w b0 n : Nat) (T : Nat → Int) : Prop := n ≤ 240 ∧ b0 + n ≤ jln 60 w ∧ b0 ≤ 1000 ∧ (∀ i, i < n → σ.1 60 w (b0 + i) = s8 (T i)) ∧ sgs n T
theorem TX.gt {σ : jM} {w b0 n : Nat} {T : Nat → Int} (H : TX σ w b0 n T) : MB (gt σ w b0 n) w b0 n T := ⟨H.1, rfl, rfl, H.2.1, H.2.2.1, rfl, H.2.2.2.1, H.2.2.2.2⟩
def MLw (G : jM) (e : Nat → Int) (Φ : jPh) (res : PR) : Prop := match res with
  | .inl p => ∀ (a' dp' : Int) (o : Option Int), Φ none (ms (fs G o) a' p dp')
  | .inr q => ∀ (a' : Int) (o : Option Int), LE e q.2 o → Φ none (ms (fs G o) a' (-1) 0)
theorem sg_neg {T : Nat → Int} {n a : Nat} (hT : sgs n T) : sg T n a = -1 ↔ n ≤ a := by
  unfold sg
  split
  · rename_i h; have := hT a h; omega
  · omega
theorem ok_MO_goThrough {σ : jM} {w b0 n : Nat} {T : Nat → Int} {e : Nat → Int} {d : Nat} {Φ : jPh} (H : TX σ w b0 n T) (hE : EL σ e) (hB : eB e) (h : MLw (gt σ w b0 n) e Φ (pLaw T n)) : Ct (d + 32) M_MO_goThrough [rf 10 0, rf 60 w, .inl b0, .inl n] σ Φ := by
  have HG := H.gt
  have hEG : EL (gt σ w b0 n) e := hE
  have hl : (gt σ w b0 n).1 10 0 13 = 121 := rfl
  have h17 : (gt σ w b0 n).1 10 0 17 = 0 := rfl
  have h240 := H.1
  have hT : sgs n T := H.2.2.2.2
  refine i_MO_goThrough (Nat.le_refl 4) (fun At h32 => ?_)
  simp only [w_MO_goThrough_0, c_ic, c_lc, c_nul, c_il, c_ll, c_al, c_is, c_ls, c_as, c_inc, c_b2, c_b2n, c_b1, c_d2, c_d2n, c_dsh, c_i2l, c_l2i, c_lcm, c_dup, c_dup2, c_pop, c_j1, c_j2, c_jn, c_sw0, c_sw, c_gI, c_gL, c_gR, c_gS, c_pI, c_pZ, c_pL, c_pR, c_iald, c_ialg, c_iast, c_iasg, c_bald, c_bast, c_lald, c_last, c_aald, c_aals, c_aast, c_alen, c_bnd, c_str, c_bndl, c_bnln, c_sval, c_scod, c_sbal, c_sbln, c_fmt, c_stop, c_iret, c_zret, c_nret, c_aret, c_vret, c_lret, c_cpy, c_callV, c_callS, tkA, lget, lput, lkill, jpush, vsz, jcat, lins, lent, List.length_cons, List.length_nil, List.replicate, List.append_nil, List.cons_append, List.nil_append, reduceIte, Nat.reduceAdd, Nat.reduceSub, Nat.reduceEqDiff, true_and, and_true, Nat.reduceLeDiff, Nat.lt_irrefl, Nat.succ_ne_self, forall_const, ne_eq, not_true_eq_false, not_false_eq_true, false_implies, implies_true, true_implies, true_or, or_true, or_false, false_or, eq_self, Int.reduceEq, Int.reduceLT, Int.reduceLE, Int.reduceNeg, Int.reduceToNat, Int.reduceAdd, Int.reduceSub, Int.reduceMul, Int.reduceNe, and_self]
  refine ok_MO_starts ?_
  simp only [c_ic, c_lc, c_nul, c_il, c_ll, c_al, c_is, c_ls, c_as, c_inc, c_b2, c_b2n, c_b1, c_d2, c_d2n, c_dsh, c_i2l, c_l2i, c_lcm, c_dup, c_dup2, c_pop, c_j1, c_j2, c_jn, c_sw0, c_sw, c_gI, c_gL, c_gR, c_gS, c_pI, c_pZ, c_pL, c_pR, c_iald, c_ialg, c_iast, c_iasg, c_bald, c_bast, c_lald, c_last, c_aald, c_aals, c_aast, c_alen, c_bnd, c_str, c_bndl, c_bnln, c_sval, c_scod, c_sbal, c_sbln, c_fmt, c_stop, c_iret, c_zret, c_nret, c_aret, c_vret, c_lret, c_cpy, c_callV, c_callS, tkA, lget, lput, lkill, jpush, vsz, jcat, lins, lent, List.length_cons, List.length_nil, List.replicate, List.append_nil, List.cons_append, List.nil_append, reduceIte, Nat.reduceAdd, Nat.reduceSub, Nat.reduceEqDiff, true_and, and_true, Nat.reduceLeDiff, Nat.lt_irrefl, Nat.succ_ne_self, forall_const, ne_eq, not_true_eq_false, not_false_eq_true, false_implies, implies_true, true_implies, true_or, or_true, or_false, false_or, eq_self, Int.reduceEq, Int.reduceLT, Int.reduceLE, Int.reduceNeg, Int.reduceToNat, Int.reduceAdd, Int.reduceSub, Int.reduceMul, Int.reduceNe, and_self]
  have e0 : sI (sI (sI (sI (sI (sI (sI (sI (sR σ 10 0 5 (some w)) 10 0 8 b0) 10 0 9 n) 10 0 10 0) 10 0 11 (-1)) 10 0 13 121) 10 0 12 0) 10 0 17 0) 10 0 14 0 = ms (gt σ w b0 n) ((0 : Nat) : Int) (-1) 0 := by
    refine m_ext (fun k j o => ?_) rfl
    simp only [ms, gt, g_sI, g_sR1]
    by_cases hk : k = 10 ∧ j = 0
    · obtain ⟨rfl, rfl⟩ := hk
      simp only [true_and]
      repeat' split
      all_goals first | rfl | omega
    · have : ∀ p : Nat, ¬ (k = 10 ∧ j = 0 ∧ o = p) := fun p q => hk ⟨q.1, q.2.1⟩
      simp only [this, if_false]
  rw [e0]
  revert h
  generalize gt σ w b0 n = G at *
  intro h
  unfold pLaw at h
  -- the end, without a fault
  have fin : ∀ (a : Nat) (c : List Int) (o : Option Int), a ≤ n → LE e c o → MLw G e Φ (if nb T n a < n then .inl (nb T n a) else .inr (nb T n a, c)) → w_MO_goThrough_66 At Φ (d + 31) [some (rf 10 0), some (rf 60 w), some (.inl b0), some (.inl n)] [] (ms (fs G o) a (-1) 0) := by
    intro a c o han hc hq
    simp only [w_MO_goThrough_66, w_MO_goThrough_87, c_ic, c_lc, c_nul, c_il, c_ll, c_al, c_is, c_ls, c_as, c_inc, c_b2, c_b2n, c_b1, c_d2, c_d2n, c_dsh, c_i2l, c_l2i, c_lcm, c_dup, c_dup2, c_pop, c_j1, c_j2, c_jn, c_sw0, c_sw, c_gI, c_gL, c_gR, c_gS, c_pI, c_pZ, c_pL, c_pR, c_iald, c_ialg, c_iast, c_iasg, c_bald, c_bast, c_lald, c_last, c_aald, c_aals, c_aast, c_alen, c_bnd, c_str, c_bndl, c_bnln, c_sval, c_scod, c_sbal, c_sbln, c_fmt, c_stop, c_iret, c_zret, c_nret, c_aret, c_vret, c_lret, c_cpy, c_callV, c_callS, tkA, lget, lput, lkill, jpush, vsz, jcat, lins, lent, List.length_cons, List.length_nil, List.replicate, List.append_nil, List.cons_append, List.nil_append, reduceIte, Nat.reduceAdd, Nat.reduceSub, Nat.reduceEqDiff, true_and, and_true, Nat.reduceLeDiff, Nat.lt_irrefl, Nat.succ_ne_self, forall_const, ne_eq, not_true_eq_false, not_false_eq_true, false_implies, implies_true, true_implies, true_or, or_true, or_false, false_or, eq_self, Int.reduceEq, Int.reduceLT, Int.reduceLE, Int.reduceNeg, Int.reduceToNat, Int.reduceAdd, Int.reduceSub, Int.reduceMul, Int.reduceNe, and_self, ms_11]
    refine ok_MO_look HG.fS han ?_
    simp only [c_ic, c_lc, c_nul, c_il, c_ll, c_al, c_is, c_ls, c_as, c_inc, c_b2, c_b2n, c_b1, c_d2, c_d2n, c_dsh, c_i2l, c_l2i, c_lcm, c_dup, c_dup2, c_pop, c_j1, c_j2, c_jn, c_sw0, c_sw, c_gI, c_gL, c_gR, c_gS, c_pI, c_pZ, c_pL, c_pR, c_iald, c_ialg, c_iast, c_iasg, c_bald, c_bast, c_lald, c_last, c_aald, c_aals, c_aast, c_alen, c_bnd, c_str, c_bndl, c_bnln, c_sval, c_scod, c_sbal, c_sbln, c_fmt, c_stop, c_iret, c_zret, c_nret, c_aret, c_vret, c_lret, c_cpy, c_callV, c_callS, tkA, lget, lput, lkill, jpush, vsz, jcat, lins, lent, List.length_cons, List.length_nil, List.replicate, List.append_nil, List.cons_append, List.nil_append, reduceIte, Nat.reduceAdd, Nat.reduceSub, Nat.reduceEqDiff, true_and, and_true, Nat.reduceLeDiff, Nat.lt_irrefl, Nat.succ_ne_self, forall_const, ne_eq, not_true_eq_false, not_false_eq_true, false_implies, implies_true, true_implies, true_or, or_true, or_false, false_or, eq_self, Int.reduceEq, Int.reduceLT, Int.reduceLE, Int.reduceNeg, Int.reduceToNat, Int.reduceAdd, Int.reduceSub, Int.reduceMul, Int.reduceNe, and_self]
    have hn := sg_neg (a := nb T n a) hT
    refine ⟨fun z => ?_, fun z => ?_⟩
    · rw [if_neg (by omega)] at hq
      exact hq _ o hc
    · rw [if_pos (by omega)] at hq
      refine ok_MO_fails ?_
      simp only [c_ic, c_lc, c_nul, c_il, c_ll, c_al, c_is, c_ls, c_as, c_inc, c_b2, c_b2n, c_b1, c_d2, c_d2n, c_dsh, c_i2l, c_l2i, c_lcm, c_dup, c_dup2, c_pop, c_j1, c_j2, c_jn, c_sw0, c_sw, c_gI, c_gL, c_gR, c_gS, c_pI, c_pZ, c_pL, c_pR, c_iald, c_ialg, c_iast, c_iasg, c_bald, c_bast, c_lald, c_last, c_aald, c_aals, c_aast, c_alen, c_bnd, c_str, c_bndl, c_bnln, c_sval, c_scod, c_sbal, c_sbln, c_fmt, c_stop, c_iret, c_zret, c_nret, c_aret, c_vret, c_lret, c_cpy, c_callV, c_callS, tkA, lget, lput, lkill, jpush, vsz, jcat, lins, lent, List.length_cons, List.length_nil, List.replicate, List.append_nil, List.cons_append, List.nil_append, reduceIte, Nat.reduceAdd, Nat.reduceSub, Nat.reduceEqDiff, true_and, and_true, Nat.reduceLeDiff, Nat.lt_irrefl, Nat.succ_ne_self, forall_const, ne_eq, not_true_eq_false, not_false_eq_true, false_implies, implies_true, true_implies, true_or, or_true, or_false, false_or, eq_self, Int.reduceEq, Int.reduceLT, Int.reduceLE, Int.reduceNeg, Int.reduceToNat, Int.reduceAdd, Int.reduceSub, Int.reduceMul, Int.reduceNe, and_self]
      rw [ff_1]
      exact hq _ _ o
  have bad : ∀ (a' dp' : Int) (p : Nat) (o : Option Int), Φ none (ms (fs G o) a' p dp') → At 32 [some (rf 10 0), some (rf 60 w), some (.inl b0), some (.inl n)] [] (ms (fs G o) a' p dp') := by
    intro a' dp' p o hq
    refine h32 _ _ _ ?_
    simp only [w_MO_goThrough_32, w_MO_goThrough_66, w_MO_goThrough_87, c_ic, c_lc, c_nul, c_il, c_ll, c_al, c_is, c_ls, c_as, c_inc, c_b2, c_b2n, c_b1, c_d2, c_d2n, c_dsh, c_i2l, c_l2i, c_lcm, c_dup, c_dup2, c_pop, c_j1, c_j2, c_jn, c_sw0, c_sw, c_gI, c_gL, c_gR, c_gS, c_pI, c_pZ, c_pL, c_pR, c_iald, c_ialg, c_iast, c_iasg, c_bald, c_bast, c_lald, c_last, c_aald, c_aals, c_aast, c_alen, c_bnd, c_str, c_bndl, c_bnln, c_sval, c_scod, c_sbal, c_sbln, c_fmt, c_stop, c_iret, c_zret, c_nret, c_aret, c_vret, c_lret, c_cpy, c_callV, c_callS, tkA, lget, lput, lkill, jpush, vsz, jcat, lins, lent, List.length_cons, List.length_nil, List.replicate, List.append_nil, List.cons_append, List.nil_append, reduceIte, Nat.reduceAdd, Nat.reduceSub, Nat.reduceEqDiff, true_and, and_true, Nat.reduceLeDiff, Nat.lt_irrefl, Nat.succ_ne_self, forall_const, ne_eq, not_true_eq_false, not_false_eq_true, false_implies, implies_true, true_implies, true_or, or_true, or_false, false_or, eq_self, Int.reduceEq, Int.reduceLT, Int.reduceLE, Int.reduceNeg, Int.reduceToNat, Int.reduceAdd, Int.reduceSub, Int.reduceMul, Int.reduceNe, and_self, ms_11]
    exact ⟨fun _ => ⟨fun _ => hq, fun z => absurd (show (p : Int) ≠ -1 by omega) z⟩, fun z => absurd (show (p : Int) ≠ -1 by omega) z⟩
  have key : ∀ (m a : Nat) (c : List Int) (o : Option Int), a ≤ n → n ≤ nb T n a + m → LE e c o → MLw G e Φ (pThen (pClauses T n m (nb T n a) c) (fun b c => if b < n then .inl b else .inr (b, c))) → At 32 [some (rf 10 0), some (rf 60 w), some (.inl b0), some (.inl n)] [] (ms (fs G o) a (-1) 0) := by
    intro m
    induction m with
    | zero =>
      intro a c o han hm hc hq
      refine h32 _ _ _ ?_
      simp only [w_MO_goThrough_32, c_ic, c_lc, c_nul, c_il, c_ll, c_al, c_is, c_ls, c_as, c_inc, c_b2, c_b2n, c_b1, c_d2, c_d2n, c_dsh, c_i2l, c_l2i, c_lcm, c_dup, c_dup2, c_pop, c_j1, c_j2, c_jn, c_sw0, c_sw, c_gI, c_gL, c_gR, c_gS, c_pI, c_pZ, c_pL, c_pR, c_iald, c_ialg, c_iast, c_iasg, c_bald, c_bast, c_lald, c_last, c_aald, c_aals, c_aast, c_alen, c_bnd, c_str, c_bndl, c_bnln, c_sval, c_scod, c_sbal, c_sbln, c_fmt, c_stop, c_iret, c_zret, c_nret, c_aret, c_vret, c_lret, c_cpy, c_callV, c_callS, tkA, lget, lput, lkill, jpush, vsz, jcat, lins, lent, List.length_cons, List.length_nil, List.replicate, List.append_nil, List.cons_append, List.nil_append, reduceIte, Nat.reduceAdd, Nat.reduceSub, Nat.reduceEqDiff, true_and, and_true, Nat.reduceLeDiff, Nat.lt_irrefl, Nat.succ_ne_self, forall_const, ne_eq, not_true_eq_false, not_false_eq_true, false_implies, implies_true, true_implies, true_or, or_true, or_false, false_or, eq_self, Int.reduceEq, Int.reduceLT, Int.reduceLE, Int.reduceNeg, Int.reduceToNat, Int.reduceAdd, Int.reduceSub, Int.reduceMul, Int.reduceNe, and_self, ms_11]
      have hb := nb_le (T := T) han
      refine ok_MO_look HG.fS han ?_
      rw [(sg_neg hT).mpr (by omega)]
      simp only [c_ic, c_lc, c_nul, c_il, c_ll, c_al, c_is, c_ls, c_as, c_inc, c_b2, c_b2n, c_b1, c_d2, c_d2n, c_dsh, c_i2l, c_l2i, c_lcm, c_dup, c_dup2, c_pop, c_j1, c_j2, c_jn, c_sw0, c_sw, c_gI, c_gL, c_gR, c_gS, c_pI, c_pZ, c_pL, c_pR, c_iald, c_ialg, c_iast, c_iasg, c_bald, c_bast, c_lald, c_last, c_aald, c_aals, c_aast, c_alen, c_bnd, c_str, c_bndl, c_bnln, c_sval, c_scod, c_sbal, c_sbln, c_fmt, c_stop, c_iret, c_zret, c_nret, c_aret, c_vret, c_lret, c_cpy, c_callV, c_callS, tkA, lget, lput, lkill, jpush, vsz, jcat, lins, lent, List.length_cons, List.length_nil, List.replicate, List.append_nil, List.cons_append, List.nil_append, reduceIte, Nat.reduceAdd, Nat.reduceSub, Nat.reduceEqDiff, true_and, and_true, Nat.reduceLeDiff, Nat.lt_irrefl, Nat.succ_ne_self, forall_const, ne_eq, not_true_eq_false, not_false_eq_true, false_implies, implies_true, true_implies, true_or, or_true, or_false, false_or, eq_self, Int.reduceEq, Int.reduceLT, Int.reduceLE, Int.reduceNeg, Int.reduceToNat, Int.reduceAdd, Int.reduceSub, Int.reduceMul, Int.reduceNe, and_self]
      refine fin _ c o hb hc ?_
      rw [nb_nb han]
      exact hq
    | succ m ih =>
      intro a c o han hm hc hq
      refine h32 _ _ _ ?_
      simp only [w_MO_goThrough_32, c_ic, c_lc, c_nul, c_il, c_ll, c_al, c_is, c_ls, c_as, c_inc, c_b2, c_b2n, c_b1, c_d2, c_d2n, c_dsh, c_i2l, c_l2i, c_lcm, c_dup, c_dup2, c_pop, c_j1, c_j2, c_jn, c_sw0, c_sw, c_gI, c_gL, c_gR, c_gS, c_pI, c_pZ, c_pL, c_pR, c_iald, c_ialg, c_iast, c_iasg, c_bald, c_bast, c_lald, c_last, c_aald, c_aals, c_aast, c_alen, c_bnd, c_str, c_bndl, c_bnln, c_sval, c_scod, c_sbal, c_sbln, c_fmt, c_stop, c_iret, c_zret, c_nret, c_aret, c_vret, c_lret, c_cpy, c_callV, c_callS, tkA, lget, lput, lkill, jpush, vsz, jcat, lins, lent, List.length_cons, List.length_nil, List.replicate, List.append_nil, List.cons_append, List.nil_append, reduceIte, Nat.reduceAdd, Nat.reduceSub, Nat.reduceEqDiff, true_and, and_true, Nat.reduceLeDiff, Nat.lt_irrefl, Nat.succ_ne_self, forall_const, ne_eq, not_true_eq_false, not_false_eq_true, false_implies, implies_true, true_implies, true_or, or_true, or_false, false_or, eq_self, Int.reduceEq, Int.reduceLT, Int.reduceLE, Int.reduceNeg, Int.reduceToNat, Int.reduceAdd, Int.reduceSub, Int.reduceMul, Int.reduceNe, and_self, ms_11]
      have hb := nb_le (T := T) han
      have hbb := nb_nb (T := T) han
      refine ok_MO_look HG.fS han ?_
      simp only [c_ic, c_lc, c_nul, c_il, c_ll, c_al, c_is, c_ls, c_as, c_inc, c_b2, c_b2n, c_b1, c_d2, c_d2n, c_dsh, c_i2l, c_l2i, c_lcm, c_dup, c_dup2, c_pop, c_j1, c_j2, c_jn, c_sw0, c_sw, c_gI, c_gL, c_gR, c_gS, c_pI, c_pZ, c_pL, c_pR, c_iald, c_ialg, c_iast, c_iasg, c_bald, c_bast, c_lald, c_last, c_aald, c_aals, c_aast, c_alen, c_bnd, c_str, c_bndl, c_bnln, c_sval, c_scod, c_sbal, c_sbln, c_fmt, c_stop, c_iret, c_zret, c_nret, c_aret, c_vret, c_lret, c_cpy, c_callV, c_callS, tkA, lget, lput, lkill, jpush, vsz, jcat, lins, lent, List.length_cons, List.length_nil, List.replicate, List.append_nil, List.cons_append, List.nil_append, reduceIte, Nat.reduceAdd, Nat.reduceSub, Nat.reduceEqDiff, true_and, and_true, Nat.reduceLeDiff, Nat.lt_irrefl, Nat.succ_ne_self, forall_const, ne_eq, not_true_eq_false, not_false_eq_true, false_implies, implies_true, true_implies, true_or, or_true, or_false, false_or, eq_self, Int.reduceEq, Int.reduceLT, Int.reduceLE, Int.reduceNeg, Int.reduceToNat, Int.reduceAdd, Int.reduceSub, Int.reduceMul, Int.reduceNe, and_self]
      unfold pClauses at hq
      revert hq hbb
      generalize nb T n a = b at *
      intro hbb hq
      refine ⟨fun z => ?_, fun z => ?_⟩
      · rw [if_neg z] at hq
        refine fin _ c o hb hc ?_
        rw [hbb]
        exact hq
      · have z := Classical.not_not.mp z
        rw [if_pos z] at hq
        have hlt := sg_lt z (by decide)
        simp only [ms_10, ms_s10]
        rw [inc_nat (by omega)]
        refine ok_MO_clause HG.fS hEG.fS hB (by rw [fsA (by omega)]; exact hl) c.length (show b + 1 ≤ n by omega) ?_
        rw [show nb T n (b + 1) = nx T n b from rfl]
        have hO := fun p => pOK_clause (T := T) (i0 := c.length) (nx_le (T := T) hlt) p
        cases he : pClause T n c.length (nx T n b) with
        | inl p =>
          rw [he] at hq
          intro a' dp'
          simp only [c_ic, c_lc, c_nul, c_il, c_ll, c_al, c_is, c_ls, c_as, c_inc, c_b2, c_b2n, c_b1, c_d2, c_d2n, c_dsh, c_i2l, c_l2i, c_lcm, c_dup, c_dup2, c_pop, c_j1, c_j2, c_jn, c_sw0, c_sw, c_gI, c_gL, c_gR, c_gS, c_pI, c_pZ, c_pL, c_pR, c_iald, c_ialg, c_iast, c_iasg, c_bald, c_bast, c_lald, c_last, c_aald, c_aals, c_aast, c_alen, c_bnd, c_str, c_bndl, c_bnln, c_sval, c_scod, c_sbal, c_sbln, c_fmt, c_stop, c_iret, c_zret, c_nret, c_aret, c_vret, c_lret, c_cpy, c_callV, c_callS, tkA, lget, lput, lkill, jpush, vsz, jcat, lins, lent, List.length_cons, List.length_nil, List.replicate, List.append_nil, List.cons_append, List.nil_append, reduceIte, Nat.reduceAdd, Nat.reduceSub, Nat.reduceEqDiff, true_and, and_true, Nat.reduceLeDiff, Nat.lt_irrefl, Nat.succ_ne_self, forall_const, ne_eq, not_true_eq_false, not_false_eq_true, false_implies, implies_true, true_implies, true_or, or_true, or_false, false_or, eq_self, Int.reduceEq, Int.reduceLT, Int.reduceLE, Int.reduceNeg, Int.reduceToNat, Int.reduceAdd, Int.reduceSub, Int.reduceMul, Int.reduceNe, and_self]
          exact bad _ _ _ _ (hq a' dp' o)
        | inr q =>
          obtain ⟨b2, c2⟩ := q
          rw [he] at hq
          simp only [pThen_r] at hq
          intro a2 o2 ha2 hb2 hce
          simp only at hb2 hce
          simp only [c_ic, c_lc, c_nul, c_il, c_ll, c_al, c_is, c_ls, c_as, c_inc, c_b2, c_b2n, c_b1, c_d2, c_d2n, c_dsh, c_i2l, c_l2i, c_lcm, c_dup, c_dup2, c_pop, c_j1, c_j2, c_jn, c_sw0, c_sw, c_gI, c_gL, c_gR, c_gS, c_pI, c_pZ, c_pL, c_pR, c_iald, c_ialg, c_iast, c_iasg, c_bald, c_bast, c_lald, c_last, c_aald, c_aals, c_aast, c_alen, c_bnd, c_str, c_bndl, c_bnln, c_sval, c_scod, c_sbal, c_sbln, c_fmt, c_stop, c_iret, c_zret, c_nret, c_aret, c_vret, c_lret, c_cpy, c_callV, c_callS, tkA, lget, lput, lkill, jpush, vsz, jcat, lins, lent, List.length_cons, List.length_nil, List.replicate, List.append_nil, List.cons_append, List.nil_append, reduceIte, Nat.reduceAdd, Nat.reduceSub, Nat.reduceEqDiff, true_and, and_true, Nat.reduceLeDiff, Nat.lt_irrefl, Nat.succ_ne_self, forall_const, ne_eq, not_true_eq_false, not_false_eq_true, false_implies, implies_true, true_implies, true_or, or_true, or_false, false_or, eq_self, Int.reduceEq, Int.reduceLT, Int.reduceLE, Int.reduceNeg, Int.reduceToNat, Int.reduceAdd, Int.reduceSub, Int.reduceMul, Int.reduceNe, and_self]
          rw [fs_fs h17]
          rw [← hb2] at hq
          have := (hO 0).2 b2 c2 he
          have hg := nx_gt T n b
          exact ih a2 (c ++ c2) _ ha2 (by omega) (hc.snoc hce) hq
  have := ok_MO_clause (d := d) (Φ := fun r τ => At 32 [some (rf 10 0), some (rf 60 w), some (.inl b0), some (.inl n)] (jpush r []) τ) HG hEG hB hl 0 (a := 0) (Nat.zero_le n) (by
    cases he : pClause T n 0 (nb T n 0) with
    | inl p =>
      rw [he] at h
      exact fun a' dp' => bad _ _ _ none (h a' dp' none)
    | inr q =>
      obtain ⟨b2, c2⟩ := q
      rw [he] at h
      simp only [pThen_r] at h
      intro a2 o2 ha2 hb2 hce
      simp only at hb2 hce
      rw [← hb2] at h
      exact key 240 a2 c2 o2 ha2 (by omega) (by have := (LE.nil e).snoc hce; rwa [List.nil_append] at this) h)
  exact this
