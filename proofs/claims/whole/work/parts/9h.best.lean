/-! ===== 9h whom to read: the class ===== -/
section BW
variable {σ : jM} {Φ : jPh} {d K F : Nat} {nt : List jN}
theorem bt_t (x b : Nat) : bt (x : Int) b = if x.testBit b = true then 1 else 0 := by
  rw [btn]
  by_cases q : x.testBit b = true
  · rw [if_pos q]
    rw [Nat.testBit_eq_decide_div_mod_eq] at q
    have := of_decide_eq_true q
    omega
  · rw [if_neg q]
    rw [Nat.testBit_eq_decide_div_mod_eq] at q
    have : ¬ (x / 2 ^ b % 2 = 1) := fun e => q (decide_eq_true e)
    omega
theorem sumF_bt {x : Nat} {Q : Nat → Prop} (h : ∀ g : Nat, x.testBit g = true ↔ Q g) : ∀ n, sumF (bt x) n = ((sumN (fun g => ind (Q g)) n : Nat) : Int)
  | 0 => rfl
  | n + 1 => by
    unfold sumF sumN
    rw [sumF_bt h n, bt_t]
    by_cases z : x.testBit n = true
    · rw [if_pos z, ind_1 ((h n).mp z)]; omega
    · rw [if_neg z, ind_0 (fun q => z ((h n).mpr q))]; omega
theorem sumN_z {u : Nat → Nat} {n : Nat} : ∀ m, n ≤ m → (∀ i, n ≤ i → u i = 0) → sumN u m = sumN u n
  | 0, h, _ => by rw [show n = 0 by omega]
  | m + 1, h, hz => by
    by_cases e : n = m + 1
    · rw [e]
    · show sumN u m + u m = sumN u n
      rw [sumN_z m (by omega) hz, hz m (by omega)]
      rfl
theorem sumN_le1 {u : Nat → Nat} : ∀ m, (∀ i, i < m → u i ≤ 1) → sumN u m ≤ m
  | 0, _ => Nat.le_refl 0
  | m + 1, h => by
    have := sumN_le1 m (fun i hi => h i (by omega))
    have := h m (by omega)
    unfold sumN
    omega
theorem ind_le (Q : Prop) : ind Q ≤ 1 := by
  by_cases z : Q
  · rw [ind_1 z]; exact Nat.le_refl 1
  · rw [ind_0 z]; exact Nat.zero_le 1
noncomputable def alF (x y n b : Nat) : Nat := ind (b ≤ n ∧ x.testBit b = true ∧ y.testBit (n - b) = true)
theorem ok_RU_mostAlike {x y : Nat} (hx : x < 1024) (hy : y < 2097152) (h : Φ (some (.inl (mxN (fun n => sumN (alF x y n) 10) 30 : Nat))) σ) : Ct (d + 2) M_RU_mostAlike [.inl x, .inl y] σ Φ := by
  refine i_RU_mostAlike (Nat.le_add_right 2 5) (fun At h4 h16 => ?_)
  have s10 : ∀ n b, b ≤ 10 → sumN (alF x y n) b ≤ 10 := fun n b hb => Nat.le_trans (sumN_le1 b (fun i _ => ind_le _)) hb
  have key : ∀ (m n : Nat) (x4 x5 x6 : Option jV), n + m = 30 → At 4 [some (.inl x), some (.inl y), some (.inl (mxN (fun n => sumN (alF x y n) 10) n : Nat)), some (.inl n), x4, x5, x6] [] σ := by
    intro m
    induction m with
    | zero =>
      intro n x4 x5 x6 hn
      refine h4 _ _ _ ?_
      obtain rfl : n = 30 := by omega
      simp only [w_RU_mostAlike_4, w_RU_mostAlike_92, c_ic, c_lc, c_nul, c_il, c_ll, c_al, c_is, c_ls, c_as, c_inc, c_b2, c_b2n, c_b1, c_d2, c_d2n, c_dsh, c_i2l, c_l2i, c_lcm, c_dup, c_dup2, c_pop, c_j1, c_j2, c_jn, c_sw0, c_sw, c_gI, c_gL, c_gR, c_gS, c_pI, c_pZ, c_pL, c_pR, c_iald, c_ialg, c_iast, c_iasg, c_bald, c_bast, c_lald, c_last, c_aald, c_aals, c_aast, c_alen, c_bnd, c_str, c_bndl, c_bnln, c_sval, c_scod, c_sbal, c_sbln, c_fmt, c_stop, c_iret, c_zret, c_nret, c_aret, c_vret, c_lret, c_cpy, c_callV, c_callS, tkA, lget, lput, lkill, jpush, vsz, jcat, lins, lent, List.length_cons, List.length_nil, List.replicate, List.append_nil, List.cons_append, List.nil_append, reduceIte, Nat.reduceAdd, Nat.reduceSub, Nat.reduceEqDiff, true_and, and_true, Nat.reduceLeDiff, Nat.lt_irrefl, Nat.succ_ne_self, forall_const, ne_eq, not_true_eq_false, not_false_eq_true, false_implies, implies_true, true_implies, true_or, or_true, or_false, false_or, eq_self, Int.reduceEq, Int.reduceLT, Int.reduceLE, Int.reduceNeg, Int.reduceToNat, Int.reduceAdd, Int.reduceSub, Int.reduceMul, Int.reduceNe, and_self]
      exact ⟨fun _ => h, fun w => absurd (by decide) w⟩
    | succ m ih =>
      intro n x4 x5 x6 hn
      refine h4 _ _ _ ?_
      simp only [w_RU_mostAlike_4, w_RU_mostAlike_92, c_ic, c_lc, c_nul, c_il, c_ll, c_al, c_is, c_ls, c_as, c_inc, c_b2, c_b2n, c_b1, c_d2, c_d2n, c_dsh, c_i2l, c_l2i, c_lcm, c_dup, c_dup2, c_pop, c_j1, c_j2, c_jn, c_sw0, c_sw, c_gI, c_gL, c_gR, c_gS, c_pI, c_pZ, c_pL, c_pR, c_iald, c_ialg, c_iast, c_iasg, c_bald, c_bast, c_lald, c_last, c_aald, c_aals, c_aast, c_alen, c_bnd, c_str, c_bndl, c_bnln, c_sval, c_scod, c_sbal, c_sbln, c_fmt, c_stop, c_iret, c_zret, c_nret, c_aret, c_vret, c_lret, c_cpy, c_callV, c_callS, tkA, lget, lput, lkill, jpush, vsz, jcat, lins, lent, List.length_cons, List.length_nil, List.replicate, List.append_nil, List.cons_append, List.nil_append, reduceIte, Nat.reduceAdd, Nat.reduceSub, Nat.reduceEqDiff, true_and, and_true, Nat.reduceLeDiff, Nat.lt_irrefl, Nat.succ_ne_self, forall_const, ne_eq, not_true_eq_false, not_false_eq_true, false_implies, implies_true, true_implies, true_or, or_true, or_false, false_or, eq_self, Int.reduceEq, Int.reduceLT, Int.reduceLE, Int.reduceNeg, Int.reduceToNat, Int.reduceAdd, Int.reduceSub, Int.reduceMul, Int.reduceNe, and_self]
      refine ⟨fun w => absurd w (by omega), fun _ => ?_⟩
      have nx : ∀ x5 x6, sumN (alF x y n) 10 ≤ 10 → (w_RU_mostAlike_79 At Φ (d + 1)) [some (.inl x), some (.inl y), some (.inl (mxN (fun n => sumN (alF x y n) 10) n : Nat)), some (.inl n), some (.inl (sumN (alF x y n) 10 : Nat)), x5, x6] [] σ := by
        intro x5 x6 _
        simp only [w_RU_mostAlike_79, c_ic, c_lc, c_nul, c_il, c_ll, c_al, c_is, c_ls, c_as, c_inc, c_b2, c_b2n, c_b1, c_d2, c_d2n, c_dsh, c_i2l, c_l2i, c_lcm, c_dup, c_dup2, c_pop, c_j1, c_j2, c_jn, c_sw0, c_sw, c_gI, c_gL, c_gR, c_gS, c_pI, c_pZ, c_pL, c_pR, c_iald, c_ialg, c_iast, c_iasg, c_bald, c_bast, c_lald, c_last, c_aald, c_aals, c_aast, c_alen, c_bnd, c_str, c_bndl, c_bnln, c_sval, c_scod, c_sbal, c_sbln, c_fmt, c_stop, c_iret, c_zret, c_nret, c_aret, c_vret, c_lret, c_cpy, c_callV, c_callS, tkA, lget, lput, lkill, jpush, vsz, jcat, lins, lent, List.length_cons, List.length_nil, List.replicate, List.append_nil, List.cons_append, List.nil_append, reduceIte, Nat.reduceAdd, Nat.reduceSub, Nat.reduceEqDiff, true_and, and_true, Nat.reduceLeDiff, Nat.lt_irrefl, Nat.succ_ne_self, forall_const, ne_eq, not_true_eq_false, not_false_eq_true, false_implies, implies_true, true_implies, true_or, or_true, or_false, false_or, eq_self, Int.reduceEq, Int.reduceLT, Int.reduceLE, Int.reduceNeg, Int.reduceToNat, Int.reduceAdd, Int.reduceSub, Int.reduceMul, Int.reduceNe, and_self, inc_nat (show n ≤ 100000 by omega)]
        refine ok_MA_max ?_
        simp only [c_ic, c_lc, c_nul, c_il, c_ll, c_al, c_is, c_ls, c_as, c_inc, c_b2, c_b2n, c_b1, c_d2, c_d2n, c_dsh, c_i2l, c_l2i, c_lcm, c_dup, c_dup2, c_pop, c_j1, c_j2, c_jn, c_sw0, c_sw, c_gI, c_gL, c_gR, c_gS, c_pI, c_pZ, c_pL, c_pR, c_iald, c_ialg, c_iast, c_iasg, c_bald, c_bast, c_lald, c_last, c_aald, c_aals, c_aast, c_alen, c_bnd, c_str, c_bndl, c_bnln, c_sval, c_scod, c_sbal, c_sbln, c_fmt, c_stop, c_iret, c_zret, c_nret, c_aret, c_vret, c_lret, c_cpy, c_callV, c_callS, tkA, lget, lput, lkill, jpush, vsz, jcat, lins, lent, List.length_cons, List.length_nil, List.replicate, List.append_nil, List.cons_append, List.nil_append, reduceIte, Nat.reduceAdd, Nat.reduceSub, Nat.reduceEqDiff, true_and, and_true, Nat.reduceLeDiff, Nat.lt_irrefl, Nat.succ_ne_self, forall_const, ne_eq, not_true_eq_false, not_false_eq_true, false_implies, implies_true, true_implies, true_or, or_true, or_false, false_or, eq_self, Int.reduceEq, Int.reduceLT, Int.reduceLE, Int.reduceNeg, Int.reduceToNat, Int.reduceAdd, Int.reduceSub, Int.reduceMul, Int.reduceNe, and_self, inc_nat (show n ≤ 100000 by omega)]
        have := ih (n + 1) (some (.inl (sumN (alF x y n) 10 : Nat))) x5 x6 (by omega)
        rw [show mxN (fun n => sumN (alF x y n) 10) (n + 1) = max (mxN (fun n => sumN (alF x y n) 10) n) (sumN (alF x y n) 10) from rfl] at this
        rw [show max ((mxN (fun n => sumN (alF x y n) 10) n : Nat) : Int) ((sumN (alF x y n) 10 : Nat) : Int) = ((max (mxN (fun n => sumN (alF x y n) 10) n) (sumN (alF x y n) 10) : Nat) : Int) by omega]
        exact this
      have inn : ∀ (m b : Nat) (x6 : Option jV), b + m = 10 → At 16 [some (.inl x), some (.inl y), some (.inl (mxN (fun n => sumN (alF x y n) 10) n : Nat)), some (.inl n), some (.inl (sumN (alF x y n) b : Nat)), some (.inl b), x6] [] σ := by
        intro m
        induction m with
        | zero =>
          intro b x6 hb
          refine h16 _ _ _ ?_
          obtain rfl : b = 10 := by omega
          simp only [w_RU_mostAlike_16, c_ic, c_lc, c_nul, c_il, c_ll, c_al, c_is, c_ls, c_as, c_inc, c_b2, c_b2n, c_b1, c_d2, c_d2n, c_dsh, c_i2l, c_l2i, c_lcm, c_dup, c_dup2, c_pop, c_j1, c_j2, c_jn, c_sw0, c_sw, c_gI, c_gL, c_gR, c_gS, c_pI, c_pZ, c_pL, c_pR, c_iald, c_ialg, c_iast, c_iasg, c_bald, c_bast, c_lald, c_last, c_aald, c_aals, c_aast, c_alen, c_bnd, c_str, c_bndl, c_bnln, c_sval, c_scod, c_sbal, c_sbln, c_fmt, c_stop, c_iret, c_zret, c_nret, c_aret, c_vret, c_lret, c_cpy, c_callV, c_callS, tkA, lget, lput, lkill, jpush, vsz, jcat, lins, lent, List.length_cons, List.length_nil, List.replicate, List.append_nil, List.cons_append, List.nil_append, reduceIte, Nat.reduceAdd, Nat.reduceSub, Nat.reduceEqDiff, true_and, and_true, Nat.reduceLeDiff, Nat.lt_irrefl, Nat.succ_ne_self, forall_const, ne_eq, not_true_eq_false, not_false_eq_true, false_implies, implies_true, true_implies, true_or, or_true, or_false, false_or, eq_self, Int.reduceEq, Int.reduceLT, Int.reduceLE, Int.reduceNeg, Int.reduceToNat, Int.reduceAdd, Int.reduceSub, Int.reduceMul, Int.reduceNe, and_self]
          exact ⟨fun _ => nx _ _ (s10 n 10 (by omega)), fun w => absurd (by decide) w⟩
        | succ m ih2 =>
          intro b x6 hb
          refine h16 _ _ _ ?_
          have e1 : jand (jshr (x : Int) (b : Int)) 1 = bt x b := jbt2 (by omega) (by omega)
          have sb := s10 n b (by omega)
          have es : sumN (alF x y n) (b + 1) = sumN (alF x y n) b + alF x y n b := rfl
          have go0 : ∀ x6, alF x y n b = 0 → At 16 [some (.inl x), some (.inl y), some (.inl (mxN (fun n => sumN (alF x y n) 10) n : Nat)), some (.inl n), some (.inl (wr (((sumN (alF x y n) b : Nat) : Int) + 0))), some (.inl ((b + 1 : Nat) : Int)), x6] [] σ := by
            intro x6 e
            have := ih2 (b + 1) x6 (by omega)
            rw [es, e] at this
            rw [wr_id (by omega) (by omega)]
            exact this
          have go1 : ∀ x6, alF x y n b = 1 → At 16 [some (.inl x), some (.inl y), some (.inl (mxN (fun n => sumN (alF x y n) 10) n : Nat)), some (.inl n), some (.inl (wr (((sumN (alF x y n) b : Nat) : Int) + 1))), some (.inl ((b + 1 : Nat) : Int)), x6] [] σ := by
            intro x6 e
            have := ih2 (b + 1) x6 (by omega)
            rw [es, e] at this
            rw [inc_nat (by omega)]
            exact this
          simp only [w_RU_mostAlike_16, w_RU_mostAlike_55, w_RU_mostAlike_56, w_RU_mostAlike_69, w_RU_mostAlike_70, c_ic, c_lc, c_nul, c_il, c_ll, c_al, c_is, c_ls, c_as, c_inc, c_b2, c_b2n, c_b1, c_d2, c_d2n, c_dsh, c_i2l, c_l2i, c_lcm, c_dup, c_dup2, c_pop, c_j1, c_j2, c_jn, c_sw0, c_sw, c_gI, c_gL, c_gR, c_gS, c_pI, c_pZ, c_pL, c_pR, c_iald, c_ialg, c_iast, c_iasg, c_bald, c_bast, c_lald, c_last, c_aald, c_aals, c_aast, c_alen, c_bnd, c_str, c_bndl, c_bnln, c_sval, c_scod, c_sbal, c_sbln, c_fmt, c_stop, c_iret, c_zret, c_nret, c_aret, c_vret, c_lret, c_cpy, c_callV, c_callS, tkA, lget, lput, lkill, jpush, vsz, jcat, lins, lent, List.length_cons, List.length_nil, List.replicate, List.append_nil, List.cons_append, List.nil_append, reduceIte, Nat.reduceAdd, Nat.reduceSub, Nat.reduceEqDiff, true_and, and_true, Nat.reduceLeDiff, Nat.lt_irrefl, Nat.succ_ne_self, forall_const, ne_eq, not_true_eq_false, not_false_eq_true, false_implies, implies_true, true_implies, true_or, or_true, or_false, false_or, eq_self, Int.reduceEq, Int.reduceLT, Int.reduceLE, Int.reduceNeg, Int.reduceToNat, Int.reduceAdd, Int.reduceSub, Int.reduceMul, Int.reduceNe, and_self, e1, bt_t, inc_nat (show b ≤ 100000 by omega)]
          refine ⟨fun w => absurd w (by omega), fun _ => ⟨fun w => ?_, fun w => ?_⟩⟩
          · have := nx (some (.inl b)) x6 (s10 n 10 (by omega))
            rw [sumN_z (u := alF x y n) (n := b) 10 (by omega) (fun i hi => ind_0 (fun q => by omega))] at this
            exact this
          · have e2 : jand (jshr (y : Int) (wr ((n : Int) - (b : Int)))) 1 = bt y (n - b) := by
              rw [wr_id (by omega) (by omega), show (n : Int) - (b : Int) = ((n - b : Nat) : Int) by omega]
              exact jbt2 (by omega) (by omega)
            simp only [e2, bt_t]
            refine ⟨fun w1 => ?_, fun w1 => ⟨fun w2 => ?_, fun w2 => ?_⟩⟩
            · have q : ¬ x.testBit b = true := fun q => w1 (by rw [if_pos q])
              exact go0 _ (ind_0 (fun e => q e.2.1))
            · have q : ¬ y.testBit (n - b) = true := fun q => w2 (by rw [if_pos q])
              exact go0 _ (ind_0 (fun e => q e.2.2))
            · have q1 : x.testBit b = true := Classical.byContradiction (fun q => w1 (by rw [if_neg q]; decide))
              have q2 : y.testBit (n - b) = true := Classical.byContradiction (fun q => w2 (by rw [if_neg q]; decide))
              exact go1 _ (ind_1 ⟨by omega, q1, q2⟩)
      exact inn 10 0 _ rfl
  simp only [w_RU_mostAlike_0, c_ic, c_lc, c_nul, c_il, c_ll, c_al, c_is, c_ls, c_as, c_inc, c_b2, c_b2n, c_b1, c_d2, c_d2n, c_dsh, c_i2l, c_l2i, c_lcm, c_dup, c_dup2, c_pop, c_j1, c_j2, c_jn, c_sw0, c_sw, c_gI, c_gL, c_gR, c_gS, c_pI, c_pZ, c_pL, c_pR, c_iald, c_ialg, c_iast, c_iasg, c_bald, c_bast, c_lald, c_last, c_aald, c_aals, c_aast, c_alen, c_bnd, c_str, c_bndl, c_bnln, c_sval, c_scod, c_sbal, c_sbln, c_fmt, c_stop, c_iret, c_zret, c_nret, c_aret, c_vret, c_lret, c_cpy, c_callV, c_callS, tkA, lget, lput, lkill, jpush, vsz, jcat, lins, lent, List.length_cons, List.length_nil, List.replicate, List.append_nil, List.cons_append, List.nil_append, reduceIte, Nat.reduceAdd, Nat.reduceSub, Nat.reduceEqDiff, true_and, and_true, Nat.reduceLeDiff, Nat.lt_irrefl, Nat.succ_ne_self, forall_const, ne_eq, not_true_eq_false, not_false_eq_true, false_implies, implies_true, true_implies, true_or, or_true, or_false, false_or, eq_self, Int.reduceEq, Int.reduceLT, Int.reduceLE, Int.reduceNeg, Int.reduceToNat, Int.reduceAdd, Int.reduceSub, Int.reduceMul, Int.reduceNe, and_self]
  exact key 30 0 _ _ _ rfl
theorem ok_RU_isBound {k f : Nat} (hU : UC σ K nt) (hK : K ≤ 4) (hk : k < K) (hf : f < 8) (hs : sndS nt K = true) (h : ∀ (g : Nat) x τ, g < 10 → fol nt k g = some x → Fr SFo σ τ → Φ (some (.inl (if x.2 f = -1 then 0 else 1))) τ) : Ct (d + 3) M_RU_isBound [rf 6 0, .inl k, .inl f] σ Φ := by
  obtain ⟨u1, u2, u3, u4, u5⟩ := id hU
  obtain ⟨y, y1, y2, y3⟩ := fitS_b nt k
  refine i_RU_isBound (Nat.le_add_right 3 1) (fun At h2 => ?_)
  have fin : ∀ g : Nat, g < 10 → y.testBit g = true → w_RU_isBound_26 At Φ (d + 2) [some (rf 6 0), some (.inl k), some (.inl f), some (.inl g)] [] σ := by
    intro g hg hb
    obtain ⟨-, x, hx⟩ := (y3 g).mp hb
    simp only [w_RU_isBound_26, c_ic, c_lc, c_nul, c_il, c_ll, c_al, c_is, c_ls, c_as, c_inc, c_b2, c_b2n, c_b1, c_d2, c_d2n, c_dsh, c_i2l, c_l2i, c_lcm, c_dup, c_dup2, c_pop, c_j1, c_j2, c_jn, c_sw0, c_sw, c_gI, c_gL, c_gR, c_gS, c_pI, c_pZ, c_pL, c_pR, c_iald, c_ialg, c_iast, c_iasg, c_bald, c_bast, c_lald, c_last, c_aald, c_aals, c_aast, c_alen, c_bnd, c_str, c_bndl, c_bnln, c_sval, c_scod, c_sbal, c_sbln, c_fmt, c_stop, c_iret, c_zret, c_nret, c_aret, c_vret, c_lret, c_cpy, c_callV, c_callS, tkA, lget, lput, lkill, jpush, vsz, jcat, lins, lent, List.length_cons, List.length_nil, List.replicate, List.append_nil, List.cons_append, List.nil_append, reduceIte, Nat.reduceAdd, Nat.reduceSub, Nat.reduceEqDiff, true_and, and_true, Nat.reduceLeDiff, Nat.lt_irrefl, Nat.succ_ne_self, forall_const, ne_eq, not_true_eq_false, not_false_eq_true, false_implies, implies_true, true_implies, true_or, or_true, or_false, false_or, eq_self, Int.reduceEq, Int.reduceLT, Int.reduceLE, Int.reduceNeg, Int.reduceToNat, Int.reduceAdd, Int.reduceSub, Int.reduceMul, Int.reduceNe, and_self]
    refine ok_RU_follow u1 u2 (by omega) (by omega) ?_
    rw [hx]
    intro τ hF hM
    have hh := h g x τ hg hx hF
    simp only [w_RU_isBound_59, w_RU_isBound_60, c_ic, c_lc, c_nul, c_il, c_ll, c_al, c_is, c_ls, c_as, c_inc, c_b2, c_b2n, c_b1, c_d2, c_d2n, c_dsh, c_i2l, c_l2i, c_lcm, c_dup, c_dup2, c_pop, c_j1, c_j2, c_jn, c_sw0, c_sw, c_gI, c_gL, c_gR, c_gS, c_pI, c_pZ, c_pL, c_pR, c_iald, c_ialg, c_iast, c_iasg, c_bald, c_bast, c_lald, c_last, c_aald, c_aals, c_aast, c_alen, c_bnd, c_str, c_bndl, c_bnln, c_sval, c_scod, c_sbal, c_sbln, c_fmt, c_stop, c_iret, c_zret, c_nret, c_aret, c_vret, c_lret, c_cpy, c_callV, c_callS, tkA, lget, lput, lkill, jpush, vsz, jcat, lins, lent, List.length_cons, List.length_nil, List.replicate, List.append_nil, List.cons_append, List.nil_append, reduceIte, Nat.reduceAdd, Nat.reduceSub, Nat.reduceEqDiff, true_and, and_true, Nat.reduceLeDiff, Nat.lt_irrefl, Nat.succ_ne_self, forall_const, ne_eq, not_true_eq_false, not_false_eq_true, false_implies, implies_true, true_implies, true_or, or_true, or_false, false_or, eq_self, Int.reduceEq, Int.reduceLT, Int.reduceLE, Int.reduceNeg, Int.reduceToNat, Int.reduceAdd, Int.reduceSub, Int.reduceMul, Int.reduceNe, and_self, Int.toNat_natCast, hM.2 f hf]
    refine ⟨fun w => absurd w (by omega), fun _ => ⟨fun w => absurd w (by omega), fun _ => ⟨⟨by omega, by omega⟩, fun w => ?_, fun w => ?_⟩⟩⟩
    · rw [if_pos w] at hh; exact hh
    · rw [if_neg w] at hh; exact hh
  have key : ∀ (m g : Nat), g + m = 9 → (∀ i, i < g → ¬ y.testBit i = true) → At 2 [some (rf 6 0), some (.inl k), some (.inl f), some (.inl g)] [] σ := by
    intro m
    induction m with
    | zero =>
      intro g hg hi
      refine h2 _ _ _ ?_
      simp only [w_RU_isBound_2, c_ic, c_lc, c_nul, c_il, c_ll, c_al, c_is, c_ls, c_as, c_inc, c_b2, c_b2n, c_b1, c_d2, c_d2n, c_dsh, c_i2l, c_l2i, c_lcm, c_dup, c_dup2, c_pop, c_j1, c_j2, c_jn, c_sw0, c_sw, c_gI, c_gL, c_gR, c_gS, c_pI, c_pZ, c_pL, c_pR, c_iald, c_ialg, c_iast, c_iasg, c_bald, c_bast, c_lald, c_last, c_aald, c_aals, c_aast, c_alen, c_bnd, c_str, c_bndl, c_bnln, c_sval, c_scod, c_sbal, c_sbln, c_fmt, c_stop, c_iret, c_zret, c_nret, c_aret, c_vret, c_lret, c_cpy, c_callV, c_callS, tkA, lget, lput, lkill, jpush, vsz, jcat, lins, lent, List.length_cons, List.length_nil, List.replicate, List.append_nil, List.cons_append, List.nil_append, reduceIte, Nat.reduceAdd, Nat.reduceSub, Nat.reduceEqDiff, true_and, and_true, Nat.reduceLeDiff, Nat.lt_irrefl, Nat.succ_ne_self, forall_const, ne_eq, not_true_eq_false, not_false_eq_true, false_implies, implies_true, true_implies, true_or, or_true, or_false, false_or, eq_self, Int.reduceEq, Int.reduceLT, Int.reduceLE, Int.reduceNeg, Int.reduceToNat, Int.reduceAdd, Int.reduceSub, Int.reduceMul, Int.reduceNe, and_self]
      refine ⟨fun _ => ?_, fun w => absurd w (by omega)⟩
      obtain ⟨i, hi2, x, hx⟩ := (sndS_iff K).mp hs k hk
      have hb : y.testBit i = true := (y3 i).mpr ⟨hi2, x, hx⟩
      have : ¬ i < g := fun q => hi i q hb
      obtain rfl : i = g := by omega
      exact fin i hi2 hb
    | succ m ih =>
      intro g hg hi
      refine h2 _ _ _ ?_
      simp only [w_RU_isBound_2, c_ic, c_lc, c_nul, c_il, c_ll, c_al, c_is, c_ls, c_as, c_inc, c_b2, c_b2n, c_b1, c_d2, c_d2n, c_dsh, c_i2l, c_l2i, c_lcm, c_dup, c_dup2, c_pop, c_j1, c_j2, c_jn, c_sw0, c_sw, c_gI, c_gL, c_gR, c_gS, c_pI, c_pZ, c_pL, c_pR, c_iald, c_ialg, c_iast, c_iasg, c_bald, c_bast, c_lald, c_last, c_aald, c_aals, c_aast, c_alen, c_bnd, c_str, c_bndl, c_bnln, c_sval, c_scod, c_sbal, c_sbln, c_fmt, c_stop, c_iret, c_zret, c_nret, c_aret, c_vret, c_lret, c_cpy, c_callV, c_callS, tkA, lget, lput, lkill, jpush, vsz, jcat, lins, lent, List.length_cons, List.length_nil, List.replicate, List.append_nil, List.cons_append, List.nil_append, reduceIte, Nat.reduceAdd, Nat.reduceSub, Nat.reduceEqDiff, true_and, and_true, Nat.reduceLeDiff, Nat.lt_irrefl, Nat.succ_ne_self, forall_const, ne_eq, not_true_eq_false, not_false_eq_true, false_implies, implies_true, true_implies, true_or, or_true, or_false, false_or, eq_self, Int.reduceEq, Int.reduceLT, Int.reduceLE, Int.reduceNeg, Int.reduceToNat, Int.reduceAdd, Int.reduceSub, Int.reduceMul, Int.reduceNe, and_self]
      refine ⟨fun w => absurd w (by omega), fun _ => ?_⟩
      refine ok_RU_biasesOf hU hK hk ?_
      rw [if_pos hs, y2]
      have e1 : jand (jshr (y : Int) (g : Int)) 1 = bt y g := jbt2 (by omega) (by omega)
      simp only [c_ic, c_lc, c_nul, c_il, c_ll, c_al, c_is, c_ls, c_as, c_inc, c_b2, c_b2n, c_b1, c_d2, c_d2n, c_dsh, c_i2l, c_l2i, c_lcm, c_dup, c_dup2, c_pop, c_j1, c_j2, c_jn, c_sw0, c_sw, c_gI, c_gL, c_gR, c_gS, c_pI, c_pZ, c_pL, c_pR, c_iald, c_ialg, c_iast, c_iasg, c_bald, c_bast, c_lald, c_last, c_aald, c_aals, c_aast, c_alen, c_bnd, c_str, c_bndl, c_bnln, c_sval, c_scod, c_sbal, c_sbln, c_fmt, c_stop, c_iret, c_zret, c_nret, c_aret, c_vret, c_lret, c_cpy, c_callV, c_callS, tkA, lget, lput, lkill, jpush, vsz, jcat, lins, lent, List.length_cons, List.length_nil, List.replicate, List.append_nil, List.cons_append, List.nil_append, reduceIte, Nat.reduceAdd, Nat.reduceSub, Nat.reduceEqDiff, true_and, and_true, Nat.reduceLeDiff, Nat.lt_irrefl, Nat.succ_ne_self, forall_const, ne_eq, not_true_eq_false, not_false_eq_true, false_implies, implies_true, true_implies, true_or, or_true, or_false, false_or, eq_self, Int.reduceEq, Int.reduceLT, Int.reduceLE, Int.reduceNeg, Int.reduceToNat, Int.reduceAdd, Int.reduceSub, Int.reduceMul, Int.reduceNe, and_self, e1, bt_t, inc_nat (show g ≤ 100000 by omega)]
      refine ⟨fun w => ?_, fun w => ?_⟩
      · exact fin g (by omega) (Classical.byContradiction (fun q => w (by rw [if_neg q])))
      · refine ih (g + 1) (by omega) (fun i hi2 => ?_)
        by_cases z : i = g
        · rw [z]
          intro q
          rw [if_pos q] at w
          omega
        · exact hi i (by omega)
  simp only [w_RU_isBound_0, c_ic, c_lc, c_nul, c_il, c_ll, c_al, c_is, c_ls, c_as, c_inc, c_b2, c_b2n, c_b1, c_d2, c_d2n, c_dsh, c_i2l, c_l2i, c_lcm, c_dup, c_dup2, c_pop, c_j1, c_j2, c_jn, c_sw0, c_sw, c_gI, c_gL, c_gR, c_gS, c_pI, c_pZ, c_pL, c_pR, c_iald, c_ialg, c_iast, c_iasg, c_bald, c_bast, c_lald, c_last, c_aald, c_aals, c_aast, c_alen, c_bnd, c_str, c_bndl, c_bnln, c_sval, c_scod, c_sbal, c_sbln, c_fmt, c_stop, c_iret, c_zret, c_nret, c_aret, c_vret, c_lret, c_cpy, c_callV, c_callS, tkA, lget, lput, lkill, jpush, vsz, jcat, lins, lent, List.length_cons, List.length_nil, List.replicate, List.append_nil, List.cons_append, List.nil_append, reduceIte, Nat.reduceAdd, Nat.reduceSub, Nat.reduceEqDiff, true_and, and_true, Nat.reduceLeDiff, Nat.lt_irrefl, Nat.succ_ne_self, forall_const, ne_eq, not_true_eq_false, not_false_eq_true, false_implies, implies_true, true_implies, true_or, or_true, or_false, false_or, eq_self, Int.reduceEq, Int.reduceLT, Int.reduceLE, Int.reduceNeg, Int.reduceToNat, Int.reduceAdd, Int.reduceSub, Int.reduceMul, Int.reduceNe, and_self]
  exact key 9 0 rfl (fun i hi => absurd hi (by omega))
/-- the first of the kingdoms with the least -/
def bst (M : Nat → Nat) : Nat → Nat
  | 0 => 0
  | k + 1 => if M k < M (bst M k) then k else bst M k
theorem bst_lt (M : Nat → Nat) : ∀ k, bst M (k + 1) < k + 1
  | 0 => by show (if M 0 < M 0 then 0 else 0) < 1; split <;> omega
  | k + 1 => by
    have := bst_lt M k
    rw [bst]
    split <;> omega
theorem rat_lt {D l1 o1 m1 l2 o2 m2 : Nat} (hD : 0 < D) (h1 : l1 * D = m1 * o1) (h2 : l2 * D = m2 * o2) (p1 : 0 < o1) (p2 : 0 < o2) : l1 * o2 < l2 * o1 ↔ m1 < m2 := by
  have e1 : l1 * o2 * D = m1 * (o1 * o2) := by rw [Nat.mul_right_comm, h1, Nat.mul_assoc]
  have e2 : l2 * o1 * D = m2 * (o1 * o2) := by rw [Nat.mul_right_comm, h2, Nat.mul_assoc, Nat.mul_comm o2 o1]
  have p := Nat.mul_pos p1 p2
  constructor
  · intro h
    have := Nat.mul_lt_mul_of_pos_right h hD
    rw [e1, e2] at this
    exact Nat.lt_of_mul_lt_mul_right this
  · intro h
    have := Nat.mul_lt_mul_of_pos_right h p
    rw [← e1, ← e2] at this
    exact Nat.lt_of_mul_lt_mul_right this
theorem sum_bi {x k : Nat} (hk : k < K) (h : ∀ g : Nat, x.testBit g = true ↔ BiM nt K k g) : sumF (bt x) 24 = ((sumN (fun b => ind (BiM nt K k b)) 10 : Nat) : Int) := by
  rw [sumF_bt h, sumN_z (n := 10) 24 (by decide) (fun i hi => ind_0 (fun q => ?_))]
  obtain ⟨b, t, -, q2, q3⟩ := q
  have := q2 k hk
  omega
theorem sum_tr {x f : Nat} (h : ∀ g : Nat, x.testBit g = true ↔ TrM nt K f g) : sumF (bt x) 24 = ((sumN (fun v => ind (TrM nt K f v)) 21 : Nat) : Int) := by
  rw [sumF_bt h, sumN_z (n := 21) 24 (by decide) (fun i hi => ind_0 (fun q => ?_))]
  have := tr_20 q
  omega
theorem al_alk {x y f k : Nat} (hx : ∀ g : Nat, x.testBit g = true ↔ BiM nt K k g) (hy : ∀ g : Nat, y.testBit g = true ↔ TrM nt K f g) (n : Nat) : sumN (alF x y n) 10 = alk nt K f k n :=
  sumN_c 10 (fun b _ => ind_c (by rw [hx, hy]))
def RT (nt : List jN) (K f k l o : Nat) : Prop := l * dal nt K f = mxN (tal nt K f k) 30 * o ∧ 0 < o ∧ o ≤ 210 ∧ l ≤ 210
/-- a turn of the loop once left and of are known -/
theorem bw_t {At : Nat → jWp} {τ : jM} {f y k l o d : Nat} {bb bl bo : Int} {xb x9 : Option jV} (hk : k < 4) (hR : RT nt K f k l o) (hD : 0 < dal nt K f) (hb : (k = 0 ∧ bb = -1) ∨ (0 < k ∧ ∃ l' o' : Nat, bb = (bst (fun k => mxN (tal nt K f k) 30) k : Nat) ∧ bl = l' ∧ bo = o' ∧ RT nt K f (bst (fun k => mxN (tal nt K f k) 30) k) l' o'))
    (h : ∀ (l' o' : Nat), RT nt K f (bst (fun k => mxN (tal nt K f k) 30) (k + 1)) l' o' → At 36 [some (rf 6 0), some (.inl f), some (.inl y), some (.inl (bst (fun k => mxN (tal nt K f k) 30) (k + 1) : Nat)), some (.inl l'), some (.inl o'), some (.inl ((k + 1 : Nat) : Int)), xb, some (.inl l), some (.inl o)] [] τ) :
    w_RU_bestWitness_100 At Φ d [some (rf 6 0), some (.inl f), some (.inl y), some (.inl bb), some (.inl bl), some (.inl bo), some (.inl k), xb, some (.inl l), x9] [.inl o] τ := by
  have r := id hR
  unfold RT at r
  have eb : bst (fun k => mxN (tal nt K f k) 30) (k + 1) = if mxN (tal nt K f k) 30 < mxN (tal nt K f (bst (fun k => mxN (tal nt K f k) 30) k)) 30 then k else bst (fun k => mxN (tal nt K f k) 30) k := rfl
  simp only [w_RU_bestWitness_100, w_RU_bestWitness_120, w_RU_bestWitness_131, c_ic, c_lc, c_nul, c_il, c_ll, c_al, c_is, c_ls, c_as, c_inc, c_b2, c_b2n, c_b1, c_d2, c_d2n, c_dsh, c_i2l, c_l2i, c_lcm, c_dup, c_dup2, c_pop, c_j1, c_j2, c_jn, c_sw0, c_sw, c_gI, c_gL, c_gR, c_gS, c_pI, c_pZ, c_pL, c_pR, c_iald, c_ialg, c_iast, c_iasg, c_bald, c_bast, c_lald, c_last, c_aald, c_aals, c_aast, c_alen, c_bnd, c_str, c_bndl, c_bnln, c_sval, c_scod, c_sbal, c_sbln, c_fmt, c_stop, c_iret, c_zret, c_nret, c_aret, c_vret, c_lret, c_cpy, c_callV, c_callS, tkA, lget, lput, lkill, jpush, vsz, jcat, lins, lent, List.length_cons, List.length_nil, List.replicate, List.append_nil, List.cons_append, List.nil_append, reduceIte, Nat.reduceAdd, Nat.reduceSub, Nat.reduceEqDiff, true_and, and_true, Nat.reduceLeDiff, Nat.lt_irrefl, Nat.succ_ne_self, forall_const, ne_eq, not_true_eq_false, not_false_eq_true, false_implies, implies_true, true_implies, true_or, or_true, or_false, false_or, eq_self, Int.reduceEq, Int.reduceLT, Int.reduceLE, Int.reduceNeg, Int.reduceToNat, Int.reduceAdd, Int.reduceSub, Int.reduceMul, Int.reduceNe, and_self, inc_nat (show k ≤ 100000 by omega)]
  rcases hb with ⟨hk0, hb⟩ | ⟨hk0, l', o', hb, hbl, hbo, hR'⟩
  · refine ⟨fun _ => ?_, fun w => absurd hb w⟩
    have e0 : bst (fun k => mxN (tal nt K f k) 30) (k + 1) = k := by
      subst hk0
      show (if mxN (tal nt K f 0) 30 < mxN (tal nt K f 0) 30 then 0 else 0) = 0
      split <;> rfl
    have := h l o (by rw [e0]; exact hR)
    rw [e0] at this
    exact this
  · subst hb hbl hbo
    have r' := id hR'
    unfold RT at r'
    have hlt := rat_lt hD r.1 r'.1 r.2.1 r'.2.1
    generalize bst (fun k => mxN (tal nt K f k) 30) k = b at *
    have p1 : l * o' ≤ 210 * 210 := Nat.mul_le_mul r.2.2.2 r'.2.2.1
    have p2 : l' * o ≤ 210 * 210 := Nat.mul_le_mul r'.2.2.2 r.2.2.1
    have w1 : wr ((l : Int) * (o' : Int)) = ((l * o' : Nat) : Int) := by
      rw [← Int.natCast_mul, wr_id (by omega) (by omega)]
    have w2 : wr ((l' : Int) * (o : Int)) = ((l' * o : Nat) : Int) := by
      rw [← Int.natCast_mul, wr_id (by omega) (by omega)]
    rw [w1, w2]
    refine ⟨fun w => absurd w (by omega), fun _ => ⟨fun w => ?_, fun w => ?_⟩⟩
    · have n : ¬ mxN (tal nt K f k) 30 < mxN (tal nt K f b) 30 := fun q => by have := hlt.mpr q; omega
      rw [if_neg n] at eb
      have := h l' o' (by rw [eb]; exact hR')
      rw [eb] at this
      exact this
    · have n : mxN (tal nt K f k) 30 < mxN (tal nt K f b) 30 := hlt.mp (by omega)
      rw [if_pos n] at eb
      have := h l o (by rw [eb]; exact hR)
      rw [eb] at this
      exact this
theorem ok_RU_bestWitness {f : Nat} (hU : UC σ K nt) (hK : K ≤ 4) (hK0 : 0 < K) (hf : f < 8) (hq : ∀ q ∈ nt, q.1 < K) (h0 : ¬ Snd nt K → Φ (some (.inl (-1))) σ) (h : Snd nt K → ∀ τ, Fr SFo σ τ → Φ (some (.inl (bst (fun k => mxN (tal nt K f k) 30) K : Nat))) τ) : Ct (d + 4) M_RU_bestWitness [rf 6 0, .inl f] σ Φ := by
  obtain ⟨u1, u2, u3, u4, u5⟩ := id hU
  refine i_RU_bestWitness (Nat.le_add_right 2 8) (fun At h36 => ?_)
  simp only [w_RU_bestWitness_0, w_RU_bestWitness_17, c_ic, c_lc, c_nul, c_il, c_ll, c_al, c_is, c_ls, c_as, c_inc, c_b2, c_b2n, c_b1, c_d2, c_d2n, c_dsh, c_i2l, c_l2i, c_lcm, c_dup, c_dup2, c_pop, c_j1, c_j2, c_jn, c_sw0, c_sw, c_gI, c_gL, c_gR, c_gS, c_pI, c_pZ, c_pL, c_pR, c_iald, c_ialg, c_iast, c_iasg, c_bald, c_bast, c_lald, c_last, c_aald, c_aals, c_aast, c_alen, c_bnd, c_str, c_bndl, c_bnln, c_sval, c_scod, c_sbal, c_sbln, c_fmt, c_stop, c_iret, c_zret, c_nret, c_aret, c_vret, c_lret, c_cpy, c_callV, c_callS, tkA, lget, lput, lkill, jpush, vsz, jcat, lins, lent, List.length_cons, List.length_nil, List.replicate, List.append_nil, List.cons_append, List.nil_append, reduceIte, Nat.reduceAdd, Nat.reduceSub, Nat.reduceEqDiff, true_and, and_true, Nat.reduceLeDiff, Nat.lt_irrefl, Nat.succ_ne_self, forall_const, ne_eq, not_true_eq_false, not_false_eq_true, false_implies, implies_true, true_implies, true_or, or_true, or_false, false_or, eq_self, Int.reduceEq, Int.reduceLT, Int.reduceLE, Int.reduceNeg, Int.reduceToNat, Int.reduceAdd, Int.reduceSub, Int.reduceMul, Int.reduceNe, and_self, u5]
  by_cases hs : sndS nt K = true
  rotate_left
  · rw [if_neg hs]
    exact ⟨fun _ => h0 (fun q => hs ((sndS_iff K).mpr q)), fun w => absurd rfl w⟩
  have hS := (sndS_iff K).mp hs
  rw [if_pos hs]
  refine ⟨fun w => absurd w (by decide), fun _ => ⟨fun w => absurd w (by omega), fun _ => ⟨fun _ => ?_, fun w => absurd (by omega) w⟩⟩⟩
  simp only [w_RU_bestWitness_19, c_ic, c_lc, c_nul, c_il, c_ll, c_al, c_is, c_ls, c_as, c_inc, c_b2, c_b2n, c_b1, c_d2, c_d2n, c_dsh, c_i2l, c_l2i, c_lcm, c_dup, c_dup2, c_pop, c_j1, c_j2, c_jn, c_sw0, c_sw, c_gI, c_gL, c_gR, c_gS, c_pI, c_pZ, c_pL, c_pR, c_iald, c_ialg, c_iast, c_iasg, c_bald, c_bast, c_lald, c_last, c_aald, c_aals, c_aast, c_alen, c_bnd, c_str, c_bndl, c_bnln, c_sval, c_scod, c_sbal, c_sbln, c_fmt, c_stop, c_iret, c_zret, c_nret, c_aret, c_vret, c_lret, c_cpy, c_callV, c_callS, tkA, lget, lput, lkill, jpush, vsz, jcat, lins, lent, List.length_cons, List.length_nil, List.replicate, List.append_nil, List.cons_append, List.nil_append, reduceIte, Nat.reduceAdd, Nat.reduceSub, Nat.reduceEqDiff, true_and, and_true, Nat.reduceLeDiff, Nat.lt_irrefl, Nat.succ_ne_self, forall_const, ne_eq, not_true_eq_false, not_false_eq_true, false_implies, implies_true, true_implies, true_or, or_true, or_false, false_or, eq_self, Int.reduceEq, Int.reduceLT, Int.reduceLE, Int.reduceNeg, Int.reduceToNat, Int.reduceAdd, Int.reduceSub, Int.reduceMul, Int.reduceNe, and_self]
  refine ok_RU_truthsOf hU hK hq (fun y hy1 hy2 => ?_)
  simp only [c_ic, c_lc, c_nul, c_il, c_ll, c_al, c_is, c_ls, c_as, c_inc, c_b2, c_b2n, c_b1, c_d2, c_d2n, c_dsh, c_i2l, c_l2i, c_lcm, c_dup, c_dup2, c_pop, c_j1, c_j2, c_jn, c_sw0, c_sw, c_gI, c_gL, c_gR, c_gS, c_pI, c_pZ, c_pL, c_pR, c_iald, c_ialg, c_iast, c_iasg, c_bald, c_bast, c_lald, c_last, c_aald, c_aals, c_aast, c_alen, c_bnd, c_str, c_bndl, c_bnln, c_sval, c_scod, c_sbal, c_sbln, c_fmt, c_stop, c_iret, c_zret, c_nret, c_aret, c_vret, c_lret, c_cpy, c_callV, c_callS, tkA, lget, lput, lkill, jpush, vsz, jcat, lins, lent, List.length_cons, List.length_nil, List.replicate, List.append_nil, List.cons_append, List.nil_append, reduceIte, Nat.reduceAdd, Nat.reduceSub, Nat.reduceEqDiff, true_and, and_true, Nat.reduceLeDiff, Nat.lt_irrefl, Nat.succ_ne_self, forall_const, ne_eq, not_true_eq_false, not_false_eq_true, false_implies, implies_true, true_implies, true_or, or_true, or_false, false_or, eq_self, Int.reduceEq, Int.reduceLT, Int.reduceLE, Int.reduceNeg, Int.reduceToNat, Int.reduceAdd, Int.reduceSub, Int.reduceMul, Int.reduceNe, and_self]
  obtain ⟨b, t, ha, hb, -⟩ := fit_of u1 hK hq hS (x := (fun _ => -1, fun _ => -1)) (fun q hq => Or.inl ⟨rfl, rfl⟩) ⟨fun w => show (-1 : Int) ≤ -1 ∧ (-1 : Int) ≤ 9 by decide, fun w => show (-1 : Int) ≤ -1 ∧ (-1 : Int) ≤ 20 by decide⟩
  obtain ⟨hD, v0, hv0⟩ := dal_pos (f := f) hK hq ha hb
  have key : ∀ (m k : Nat) (τ : jM) (bb bl bo : Int) (x7 x8 x9 : Option jV), k + m = K → Fr SFo σ τ → ((k = 0 ∧ bb = -1) ∨ (0 < k ∧ ∃ l' o' : Nat, bb = (bst (fun k => mxN (tal nt K f k) 30) k : Nat) ∧ bl = l' ∧ bo = o' ∧ RT nt K f (bst (fun k => mxN (tal nt K f k) 30) k) l' o')) → At 36 [some (rf 6 0), some (.inl f), some (.inl y), some (.inl bb), some (.inl bl), some (.inl bo), some (.inl k), x7, x8, x9] [] τ := by
    intro m
    induction m with
    | zero =>
      intro k τ bb bl bo x7 x8 x9 hk hF hb
      refine h36 _ _ _ ?_
      have c6 : τ.1 6 0 6 = K := by rw [hF.i (by unfold SFo; omega)]; exact u3
      simp only [w_RU_bestWitness_36, w_RU_bestWitness_137, c_ic, c_lc, c_nul, c_il, c_ll, c_al, c_is, c_ls, c_as, c_inc, c_b2, c_b2n, c_b1, c_d2, c_d2n, c_dsh, c_i2l, c_l2i, c_lcm, c_dup, c_dup2, c_pop, c_j1, c_j2, c_jn, c_sw0, c_sw, c_gI, c_gL, c_gR, c_gS, c_pI, c_pZ, c_pL, c_pR, c_iald, c_ialg, c_iast, c_iasg, c_bald, c_bast, c_lald, c_last, c_aald, c_aals, c_aast, c_alen, c_bnd, c_str, c_bndl, c_bnln, c_sval, c_scod, c_sbal, c_sbln, c_fmt, c_stop, c_iret, c_zret, c_nret, c_aret, c_vret, c_lret, c_cpy, c_callV, c_callS, tkA, lget, lput, lkill, jpush, vsz, jcat, lins, lent, List.length_cons, List.length_nil, List.replicate, List.append_nil, List.cons_append, List.nil_append, reduceIte, Nat.reduceAdd, Nat.reduceSub, Nat.reduceEqDiff, true_and, and_true, Nat.reduceLeDiff, Nat.lt_irrefl, Nat.succ_ne_self, forall_const, ne_eq, not_true_eq_false, not_false_eq_true, false_implies, implies_true, true_implies, true_or, or_true, or_false, false_or, eq_self, Int.reduceEq, Int.reduceLT, Int.reduceLE, Int.reduceNeg, Int.reduceToNat, Int.reduceAdd, Int.reduceSub, Int.reduceMul, Int.reduceNe, and_self, c6]
      refine ⟨fun _ => ?_, fun w => absurd w (by omega)⟩
      obtain rfl : k = K := by omega
      rcases hb with ⟨e, -⟩ | ⟨-, l', o', hb, -⟩
      · omega
      · rw [hb]; exact h hS τ hF
    | succ m ih =>
      intro k τ bb bl bo x7 x8 x9 hk hF hb'
      refine h36 _ _ _ ?_
      have hkK : k < K := by omega
      have hUt : UC τ K nt := UC.fr hF (fun k j o h => by unfold fD at h; unfold SFo; omega) hU
      obtain ⟨x, x1, x2, x3⟩ := bi_bits u1 hK hkK hq
      have hb0 : BiM nt K k (b k).toNat := ⟨b, t, ha, hb, by have := hb k hkK; omega⟩
      simp only [w_RU_bestWitness_36, w_RU_bestWitness_137, c_ic, c_lc, c_nul, c_il, c_ll, c_al, c_is, c_ls, c_as, c_inc, c_b2, c_b2n, c_b1, c_d2, c_d2n, c_dsh, c_i2l, c_l2i, c_lcm, c_dup, c_dup2, c_pop, c_j1, c_j2, c_jn, c_sw0, c_sw, c_gI, c_gL, c_gR, c_gS, c_pI, c_pZ, c_pL, c_pR, c_iald, c_ialg, c_iast, c_iasg, c_bald, c_bast, c_lald, c_last, c_aald, c_aals, c_aast, c_alen, c_bnd, c_str, c_bndl, c_bnln, c_sval, c_scod, c_sbal, c_sbln, c_fmt, c_stop, c_iret, c_zret, c_nret, c_aret, c_vret, c_lret, c_cpy, c_callV, c_callS, tkA, lget, lput, lkill, jpush, vsz, jcat, lins, lent, List.length_cons, List.length_nil, List.replicate, List.append_nil, List.cons_append, List.nil_append, reduceIte, Nat.reduceAdd, Nat.reduceSub, Nat.reduceEqDiff, true_and, and_true, Nat.reduceLeDiff, Nat.lt_irrefl, Nat.succ_ne_self, forall_const, ne_eq, not_true_eq_false, not_false_eq_true, false_implies, implies_true, true_implies, true_or, or_true, or_false, false_or, eq_self, Int.reduceEq, Int.reduceLT, Int.reduceLE, Int.reduceNeg, Int.reduceToNat, Int.reduceAdd, Int.reduceSub, Int.reduceMul, Int.reduceNe, and_self, hUt.2.2.1]
      refine ⟨fun w => absurd w (by omega), fun _ => ?_⟩
      refine ok_RU_isBound hUt hK hkK hf hs (fun g z τ' hg hz hF' => ?_)
      have hFF : Fr SFo σ τ' := hF.tr hF'
      have hUt' : UC τ' K nt := UC.fr hFF (fun k j o h => by unfold fD at h; unfold SFo; omega) hU
      have c39 : τ'.1 39 0 k = x := by rw [hUt'.2.2.2.1 k hkK, ← x2, if_pos hs]
      obtain ⟨rr1, rr2⟩ := rat_eq (f := f) u1 hK hkK hq (g := g) (by omega) hz hb0 hv0
      have nx : ∀ (l o : Nat) (xb x9 : Option jV), RT nt K f k l o → w_RU_bestWitness_100 At Φ (d + 3) [some (rf 6 0), some (.inl f), some (.inl y), some (.inl bb), some (.inl bl), some (.inl bo), some (.inl k), xb, some (.inl l), x9] [.inl o] τ' := by
        intro l o xb x9 hR
        refine bw_t (by omega) hR hD hb' (fun l' o' hR' => ?_)
        exact ih (k + 1) τ' _ _ _ _ _ _ (by omega) hFF (Or.inr ⟨by omega, l', o', rfl, rfl, rfl, hR'⟩)
      by_cases hz1 : z.2 f = -1
      · rw [if_pos hz1]
        have eq := rr2 hz1
        have em : mxN (fun n => sumN (alF x y n) 10) 30 = mxN (alk nt K f k) 30 := mxN_c 30 (fun n _ => al_alk x3 hy2 n)
        have pB : 0 < sumN (fun b => ind (BiM nt K k b)) 10 := sumN_pos (p := (b k).toNat) 10 (by have := hb k hkK; omega) (by rw [ind_1 hb0]; decide)
        have pT : 0 < sumN (fun v => ind (TrM nt K f v)) 21 := sumN_pos (p := v0) 21 (by have := tr_20 hv0; omega) (by rw [ind_1 hv0]; decide)
        have qB : sumN (fun b => ind (BiM nt K k b)) 10 ≤ 10 := sumN_le1 10 (fun _ _ => ind_le _)
        have qT : sumN (fun v => ind (TrM nt K f v)) 21 ≤ 21 := sumN_le1 21 (fun _ _ => ind_le _)
        have qL : mxN (alk nt K f k) 30 ≤ 10 := mxN_le 30 (fun i _ => sumN_le1 10 (fun _ _ => ind_le _))
        have sB := sum_bi hkK x3
        have sT := sum_tr hy2
        simp only [w_RU_bestWitness_63, c_ic, c_lc, c_nul, c_il, c_ll, c_al, c_is, c_ls, c_as, c_inc, c_b2, c_b2n, c_b1, c_d2, c_d2n, c_dsh, c_i2l, c_l2i, c_lcm, c_dup, c_dup2, c_pop, c_j1, c_j2, c_jn, c_sw0, c_sw, c_gI, c_gL, c_gR, c_gS, c_pI, c_pZ, c_pL, c_pR, c_iald, c_ialg, c_iast, c_iasg, c_bald, c_bast, c_lald, c_last, c_aald, c_aals, c_aast, c_alen, c_bnd, c_str, c_bndl, c_bnln, c_sval, c_scod, c_sbal, c_sbln, c_fmt, c_stop, c_iret, c_zret, c_nret, c_aret, c_vret, c_lret, c_cpy, c_callV, c_callS, tkA, lget, lput, lkill, jpush, vsz, jcat, lins, lent, List.length_cons, List.length_nil, List.replicate, List.append_nil, List.cons_append, List.nil_append, reduceIte, Nat.reduceAdd, Nat.reduceSub, Nat.reduceEqDiff, true_and, and_true, Nat.reduceLeDiff, Nat.lt_irrefl, Nat.succ_ne_self, forall_const, ne_eq, not_true_eq_false, not_false_eq_true, false_implies, implies_true, true_implies, true_or, or_true, or_false, false_or, eq_self, Int.reduceEq, Int.reduceLT, Int.reduceLE, Int.reduceNeg, Int.reduceToNat, Int.reduceAdd, Int.reduceSub, Int.reduceMul, Int.reduceNe, and_self, Int.toNat_natCast, c39]
        refine ⟨⟨by omega, by omega⟩, ok_RU_mostAlike x1 hy1 ?_⟩
        simp only [w_RU_bestWitness_74, w_RU_bestWitness_85, c_ic, c_lc, c_nul, c_il, c_ll, c_al, c_is, c_ls, c_as, c_inc, c_b2, c_b2n, c_b1, c_d2, c_d2n, c_dsh, c_i2l, c_l2i, c_lcm, c_dup, c_dup2, c_pop, c_j1, c_j2, c_jn, c_sw0, c_sw, c_gI, c_gL, c_gR, c_gS, c_pI, c_pZ, c_pL, c_pR, c_iald, c_ialg, c_iast, c_iasg, c_bald, c_bast, c_lald, c_last, c_aald, c_aals, c_aast, c_alen, c_bnd, c_str, c_bndl, c_bnln, c_sval, c_scod, c_sbal, c_sbln, c_fmt, c_stop, c_iret, c_zret, c_nret, c_aret, c_vret, c_lret, c_cpy, c_callV, c_callS, tkA, lget, lput, lkill, jpush, vsz, jcat, lins, lent, List.length_cons, List.length_nil, List.replicate, List.append_nil, List.cons_append, List.nil_append, reduceIte, Nat.reduceAdd, Nat.reduceSub, Nat.reduceEqDiff, true_and, and_true, Nat.reduceLeDiff, Nat.lt_irrefl, Nat.succ_ne_self, forall_const, ne_eq, not_true_eq_false, not_false_eq_true, false_implies, implies_true, true_implies, true_or, or_true, or_false, false_or, eq_self, Int.reduceEq, Int.reduceLT, Int.reduceLE, Int.reduceNeg, Int.reduceToNat, Int.reduceAdd, Int.reduceSub, Int.reduceMul, Int.reduceNe, and_self, Int.toNat_natCast, c39]
        refine ⟨⟨by omega, by omega⟩, ok_IN_bitCount (by omega) ?_⟩
        simp only [c_ic, c_lc, c_nul, c_il, c_ll, c_al, c_is, c_ls, c_as, c_inc, c_b2, c_b2n, c_b1, c_d2, c_d2n, c_dsh, c_i2l, c_l2i, c_lcm, c_dup, c_dup2, c_pop, c_j1, c_j2, c_jn, c_sw0, c_sw, c_gI, c_gL, c_gR, c_gS, c_pI, c_pZ, c_pL, c_pR, c_iald, c_ialg, c_iast, c_iasg, c_bald, c_bast, c_lald, c_last, c_aald, c_aals, c_aast, c_alen, c_bnd, c_str, c_bndl, c_bnln, c_sval, c_scod, c_sbal, c_sbln, c_fmt, c_stop, c_iret, c_zret, c_nret, c_aret, c_vret, c_lret, c_cpy, c_callV, c_callS, tkA, lget, lput, lkill, jpush, vsz, jcat, lins, lent, List.length_cons, List.length_nil, List.replicate, List.append_nil, List.cons_append, List.nil_append, reduceIte, Nat.reduceAdd, Nat.reduceSub, Nat.reduceEqDiff, true_and, and_true, Nat.reduceLeDiff, Nat.lt_irrefl, Nat.succ_ne_self, forall_const, ne_eq, not_true_eq_false, not_false_eq_true, false_implies, implies_true, true_implies, true_or, or_true, or_false, false_or, eq_self, Int.reduceEq, Int.reduceLT, Int.reduceLE, Int.reduceNeg, Int.reduceToNat, Int.reduceAdd, Int.reduceSub, Int.reduceMul, Int.reduceNe, and_self]
        refine ok_IN_bitCount (by omega) ?_
        simp only [c_ic, c_lc, c_nul, c_il, c_ll, c_al, c_is, c_ls, c_as, c_inc, c_b2, c_b2n, c_b1, c_d2, c_d2n, c_dsh, c_i2l, c_l2i, c_lcm, c_dup, c_dup2, c_pop, c_j1, c_j2, c_jn, c_sw0, c_sw, c_gI, c_gL, c_gR, c_gS, c_pI, c_pZ, c_pL, c_pR, c_iald, c_ialg, c_iast, c_iasg, c_bald, c_bast, c_lald, c_last, c_aald, c_aals, c_aast, c_alen, c_bnd, c_str, c_bndl, c_bnln, c_sval, c_scod, c_sbal, c_sbln, c_fmt, c_stop, c_iret, c_zret, c_nret, c_aret, c_vret, c_lret, c_cpy, c_callV, c_callS, tkA, lget, lput, lkill, jpush, vsz, jcat, lins, lent, List.length_cons, List.length_nil, List.replicate, List.append_nil, List.cons_append, List.nil_append, reduceIte, Nat.reduceAdd, Nat.reduceSub, Nat.reduceEqDiff, true_and, and_true, Nat.reduceLeDiff, Nat.lt_irrefl, Nat.succ_ne_self, forall_const, ne_eq, not_true_eq_false, not_false_eq_true, false_implies, implies_true, true_implies, true_or, or_true, or_false, false_or, eq_self, Int.reduceEq, Int.reduceLT, Int.reduceLE, Int.reduceNeg, Int.reduceToNat, Int.reduceAdd, Int.reduceSub, Int.reduceMul, Int.reduceNe, and_self, em, sB, sT]
        generalize sumN (fun b => ind (BiM nt K k b)) 10 = B at *
        generalize sumN (fun v => ind (TrM nt K f v)) 21 = T at *
        have pp : 0 < B * T := Nat.mul_pos pB pT
        have qq : B * T ≤ 10 * 21 := Nat.mul_le_mul qB qT
        rw [← Int.natCast_mul, wr_id (by omega) (by omega)]
        exact nx _ _ _ _ ⟨eq, pp, by omega, by omega⟩
      · rw [if_neg hz1]
        have eq := rr1 hz1
        simp only [w_RU_bestWitness_74, c_ic, c_lc, c_nul, c_il, c_ll, c_al, c_is, c_ls, c_as, c_inc, c_b2, c_b2n, c_b1, c_d2, c_d2n, c_dsh, c_i2l, c_l2i, c_lcm, c_dup, c_dup2, c_pop, c_j1, c_j2, c_jn, c_sw0, c_sw, c_gI, c_gL, c_gR, c_gS, c_pI, c_pZ, c_pL, c_pR, c_iald, c_ialg, c_iast, c_iasg, c_bald, c_bast, c_lald, c_last, c_aald, c_aals, c_aast, c_alen, c_bnd, c_str, c_bndl, c_bnln, c_sval, c_scod, c_sbal, c_sbln, c_fmt, c_stop, c_iret, c_zret, c_nret, c_aret, c_vret, c_lret, c_cpy, c_callV, c_callS, tkA, lget, lput, lkill, jpush, vsz, jcat, lins, lent, List.length_cons, List.length_nil, List.replicate, List.append_nil, List.cons_append, List.nil_append, reduceIte, Nat.reduceAdd, Nat.reduceSub, Nat.reduceEqDiff, true_and, and_true, Nat.reduceLeDiff, Nat.lt_irrefl, Nat.succ_ne_self, forall_const, ne_eq, not_true_eq_false, not_false_eq_true, false_implies, implies_true, true_implies, true_or, or_true, or_false, false_or, eq_self, Int.reduceEq, Int.reduceLT, Int.reduceLE, Int.reduceNeg, Int.reduceToNat, Int.reduceAdd, Int.reduceSub, Int.reduceMul, Int.reduceNe, and_self]
        exact nx 1 1 _ _ ⟨by rw [eq, Nat.one_mul, Nat.mul_one], by decide, by decide, by decide⟩
  exact key K 0 σ _ _ _ _ _ _ (Nat.zero_add _) Fr.rf (Or.inl ⟨rfl, rfl⟩)
end BW
