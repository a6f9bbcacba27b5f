/-! ===== 58 Law: worth, the clauses ===== -/
section WO
variable {At : Nat → jWp} {Φ : jPh} {d l : Nat} {σ : jM} {C : List Int} {e : Nat → Int} {a1 a2 a3 a4 a5 a6 : Int}
theorem wo_done (h51 : ∀ ls st τ, w_LA_worth_51 At Φ d ls st τ → At 51 ls st τ) (hC : LV σ l C) {τ : jM} {v : Int} {pre seg post : List Int} {x y : Option jV} (hc : C = pre ++ seg ++ [2] ++ post) (hs : ST l σ e τ ([] ++ [v])) (h : ∀ τ, AW l σ τ → Φ (some (.inl v)) τ) : At 51 (lcs l a1 a2 a3 a4 a5 a6 ((List.nil (α := Int)).length + 1 : Nat) (pre.length + seg.length : Nat) x y) [] τ := by
  have hat := l_at hc
  refine fetch (s := [] ++ [v]) h51 hC (o := 0) (g := 2) hs (by simp) hat.1 (by rw [hat.2]; decide) (by decide) (by omega) (fun z => absurd z (by omega)) (fun _ => ?_)
  have e1 := hs.top
  simp only [w_LA_worth_141, w_LA_worth_149, c_ic, c_lc, c_nul, c_il, c_ll, c_al, c_is, c_ls, c_as, c_inc, c_b2, c_b2n, c_b1, c_d2, c_d2n, c_dsh, c_i2l, c_l2i, c_lcm, c_dup, c_dup2, c_pop, c_j1, c_j2, c_jn, c_sw0, c_sw, c_gI, c_gL, c_gR, c_gS, c_pI, c_pZ, c_pL, c_pR, c_iald, c_ialg, c_iast, c_iasg, c_bald, c_bast, c_lald, c_last, c_aald, c_aals, c_aast, c_alen, c_bnd, c_str, c_bndl, c_bnln, c_sval, c_scod, c_sbal, c_sbln, c_fmt, c_stop, c_iret, c_zret, c_nret, c_aret, c_vret, c_lret, c_cpy, c_callV, c_callS, tkA, lget, lput, lkill, jpush, vsz, jcat, lins, lent, List.length_cons, List.length_nil, List.replicate, List.append_nil, List.cons_append, List.nil_append, reduceIte, Nat.reduceAdd, Nat.reduceSub, Nat.reduceEqDiff, true_and, and_true, Nat.reduceLeDiff, Nat.lt_irrefl, Nat.succ_ne_self, forall_const, ne_eq, not_true_eq_false, not_false_eq_true, false_implies, implies_true, true_implies, true_or, or_true, or_false, false_or, eq_self, Int.reduceEq, Int.reduceLT, Int.reduceLE, Int.reduceNeg, Int.reduceToNat, Int.reduceAdd, Int.reduceSub, Int.reduceMul, Int.reduceNe, and_self, Int.cast_ofNat_Int]
  simp only [List.length_nil] at e1
  rw [show wr 0 = 0 by decide]
  simp only [Int.reduceToNat, e1]
  exact ⟨⟨by decide, by decide⟩, h _ hs.1⟩
theorem wo_all (h51 : ∀ ls st τ, w_LA_worth_51 At Φ (d + 1) ls st τ → At 51 ls st τ) (hC : LV σ l C) (hB : eB e) {c : List Int} {o : Option Int} (hL : LE e c o) : ∀ (post : List Int) (τ : jM) (x y : Option jV), C = c ++ post → ST l σ e τ [] → (o = none → ∀ τ' x' y', ST l σ e τ' [] → At 51 (lcs l a1 a2 a3 a4 a5 a6 ((List.nil (α := Int)).length : Nat) (c.length : Nat) x' y') [] τ') → (∀ v, o = some v → ∀ τ', AW l σ τ' → Φ (some (.inl v)) τ') → At 51 (lcs l a1 a2 a3 a4 a5 a6 ((List.nil (α := Int)).length : Nat) ((List.nil (α := Int)).length : Nat) x y) [] τ := by
  have c240 := hC.2.1
  refine hL (fun c o => ∀ (post : List Int) (τ : jM) (x y : Option jV), C = c ++ post → ST l σ e τ [] → (o = none → ∀ τ' x' y', ST l σ e τ' [] → At 51 (lcs l a1 a2 a3 a4 a5 a6 ((List.nil (α := Int)).length : Nat) (c.length : Nat) x' y') [] τ') → (∀ v, o = some v → ∀ τ', AW l σ τ' → Φ (some (.inl v)) τ') → At 51 (lcs l a1 a2 a3 a4 a5 a6 ((List.nil (α := Int)).length : Nat) ((List.nil (α := Int)).length : Nat) x y) [] τ) ?_ ?_
  · intro post τ x y _ hs hn _
    exact hn rfl τ x y hs
  · intro c c2 o o2 hP hce post τ x y hc hs hn hv
    have hcc : C = c ++ (c2 ++ post) := by rw [hc, List.append_assoc]
    refine hP (c2 ++ post) τ x y hcc hs (fun ho τ1 x1 y1 hs1 => ?_) (fun v ho τ' hτ => hv v (by rw [ho]; rfl) τ' hτ)
    rw [ho] at hn hv
    simp only [or2] at hn hv
    rcases hce with ⟨c1, v, h1, rfl, rfl⟩ | ⟨cc, t, cv, v, h1, h2, rfl, rfl⟩
    · refine (seg_all h51 hC hB h1).2 c ([2] ++ post) [] τ1 x1 y1 (by rw [hcc]; simp only [List.append_assoc]) (by decide) hs1 (fun τ2 x2 y2 hs2 => ?_)
      exact wo_done (pre := c) (seg := c1) (post := post) h51 hC (by rw [hcc]; simp only [List.append_assoc]) hs2 (hv v rfl)
    · refine (seg_all h51 hC hB h1).2 c ([((c.length + cc.length + cv.length + 2 : Nat) : Int) * 16 + 3] ++ cv ++ [2] ++ post) [] τ1 x1 y1 (by rw [hcc]; simp only [List.append_assoc]) (by decide) hs1 (fun τ2 x2 y2 hs2 => ?_)
      have hat := l_at (C := C) (pre := c) (seg := cc) (w := ((c.length + cc.length + cv.length + 2 : Nat) : Int) * 16 + 3) (post := cv ++ [2] ++ post) (by rw [hcc]; simp only [List.append_assoc])
      have hle : c.length + cc.length + cv.length + 2 ≤ 240 := by
        have : C.length = c.length + cc.length + cv.length + 2 + post.length := by rw [hcc]; simp only [List.length_append, List.length_cons, List.length_nil]; omega
        omega
      refine fetch (s := [] ++ [t]) h51 hC (o := c.length + cc.length + cv.length + 2) (g := 3) hs2 (by simp) hat.1 (by rw [hat.2]; omega) (by omega) (by omega) (fun z => absurd z (by omega)) (fun _ => ?_)
      have e1 := hs2.top
      simp only [List.length_nil] at e1
      simp only [w_LA_worth_141, w_LA_worth_149, w_LA_worth_165, w_LA_worth_196, w_LA_worth_198, w_LA_worth_273, c_ic, c_lc, c_nul, c_il, c_ll, c_al, c_is, c_ls, c_as, c_inc, c_b2, c_b2n, c_b1, c_d2, c_d2n, c_dsh, c_i2l, c_l2i, c_lcm, c_dup, c_dup2, c_pop, c_j1, c_j2, c_jn, c_sw0, c_sw, c_gI, c_gL, c_gR, c_gS, c_pI, c_pZ, c_pL, c_pR, c_iald, c_ialg, c_iast, c_iasg, c_bald, c_bast, c_lald, c_last, c_aald, c_aals, c_aast, c_alen, c_bnd, c_str, c_bndl, c_bnln, c_sval, c_scod, c_sbal, c_sbln, c_fmt, c_stop, c_iret, c_zret, c_nret, c_aret, c_vret, c_lret, c_cpy, c_callV, c_callS, tkA, lget, lput, lkill, jpush, vsz, jcat, lins, lent, List.length_cons, List.length_nil, List.replicate, List.append_nil, List.cons_append, List.nil_append, reduceIte, Nat.reduceAdd, Nat.reduceSub, Nat.reduceEqDiff, true_and, and_true, Nat.reduceLeDiff, Nat.lt_irrefl, Nat.succ_ne_self, forall_const, ne_eq, not_true_eq_false, not_false_eq_true, false_implies, implies_true, true_implies, true_or, or_true, or_false, false_or, eq_self, Int.reduceEq, Int.reduceLT, Int.reduceLE, Int.reduceNeg, Int.reduceToNat, Int.reduceAdd, Int.reduceSub, Int.reduceMul, Int.reduceNe, and_self, Int.cast_ofNat_Int]
      rw [show wr 0 = 0 by decide]
      simp only [Int.reduceToNat, e1]
      refine ⟨⟨by decide, by decide⟩, fun z => ?_, fun z => ?_⟩
      · rw [inc_nat (by omega)]
        rw [if_neg z] at hv
        have q := (seg_all (a1 := a1) (a2 := a2) (a3 := a3) (a4 := a4) (a5 := a5) (a6 := a6) h51 hC hB h2).2 (c ++ cc ++ [((c.length + cc.length + cv.length + 2 : Nat) : Int) * 16 + 3]) ([2] ++ post) [] τ2 (some (.inl 3)) (some (.inl ((c.length + cc.length + cv.length + 2 : Nat) : Int))) (by rw [hcc]; simp only [List.append_assoc]) (by decide) hs2.low (fun τ3 x3 y3 hs3 => ?_)
        · simp only [List.length_append, List.length_cons, List.length_nil] at q
          exact q
        · exact wo_done (pre := c ++ cc ++ [((c.length + cc.length + cv.length + 2 : Nat) : Int) * 16 + 3]) (seg := cv) (post := post) h51 hC (by rw [hcc]; simp only [List.append_assoc]) hs3 (hv v rfl)
      · have z := Classical.not_not.mp z
        refine ok_MA_max ?_
        simp only [c_ic, c_lc, c_nul, c_il, c_ll, c_al, c_is, c_ls, c_as, c_inc, c_b2, c_b2n, c_b1, c_d2, c_d2n, c_dsh, c_i2l, c_l2i, c_lcm, c_dup, c_dup2, c_pop, c_j1, c_j2, c_jn, c_sw0, c_sw, c_gI, c_gL, c_gR, c_gS, c_pI, c_pZ, c_pL, c_pR, c_iald, c_ialg, c_iast, c_iasg, c_bald, c_bast, c_lald, c_last, c_aald, c_aals, c_aast, c_alen, c_bnd, c_str, c_bndl, c_bnln, c_sval, c_scod, c_sbal, c_sbln, c_fmt, c_stop, c_iret, c_zret, c_nret, c_aret, c_vret, c_lret, c_cpy, c_callV, c_callS, tkA, lget, lput, lkill, jpush, vsz, jcat, lins, lent, List.length_cons, List.length_nil, List.replicate, List.append_nil, List.cons_append, List.nil_append, reduceIte, Nat.reduceAdd, Nat.reduceSub, Nat.reduceEqDiff, true_and, and_true, Nat.reduceLeDiff, Nat.lt_irrefl, Nat.succ_ne_self, forall_const, ne_eq, not_true_eq_false, not_false_eq_true, false_implies, implies_true, true_implies, true_or, or_true, or_false, false_or, eq_self, Int.reduceEq, Int.reduceLT, Int.reduceLE, Int.reduceNeg, Int.reduceToNat, Int.reduceAdd, Int.reduceSub, Int.reduceMul, Int.reduceNe, and_self]
        rw [wr_id (x := ((c.length + cc.length + cv.length + 2 : Nat) : Int) - 1) (by omega) (by omega)]
        rw [show max ((c.length + cc.length : Nat) : Int) (((c.length + cc.length + cv.length + 2 : Nat) : Int) - 1) = ((c.length + cc.length + cv.length + 1 : Nat) : Int) by omega, inc_nat (by omega)]
        have q := hn (if_pos z) τ2 (some (.inl 3)) (some (.inl ((c.length + cc.length + cv.length + 2 : Nat) : Int))) hs2.low
        simp only [List.length_append, List.length_cons, List.length_nil] at q
        rw [show c.length + (cc.length + (0 + 1) + cv.length + (0 + 1)) = c.length + cc.length + cv.length + 1 + 1 by omega] at q
        exact q
end WO
def env6 (a1 a2 a3 a4 a5 a6 : Int) : Nat → Int
  | 0 => a1
  | 1 => a2
  | 2 => a3
  | 3 => a4
  | 4 => a5
  | _ => a6
theorem ok_LA_worth {σ : jM} {Φ : jPh} {d l : Nat} {C : List Int} {o : Option Int} {a1 a2 a3 a4 a5 a6 : Int} (hC : LV σ l C) (hB : eB (env6 a1 a2 a3 a4 a5 a6)) (hL : LE (env6 a1 a2 a3 a4 a5 a6) C o) (h : ∀ τ, AW l σ τ → Φ (some (.inl (o.getD 0))) τ) : Ct (d + 2) M_LA_worth [rf 3 l, .inl a1, .inl a2, .inl a3, .inl a4, .inl a5, .inl a6] σ Φ := by
  refine i_LA_worth (Nat.le_add_right 7 4) (fun At h51 => ?_)
  simp only [w_LA_worth_0, c_ic, c_lc, c_nul, c_il, c_ll, c_al, c_is, c_ls, c_as, c_inc, c_b2, c_b2n, c_b1, c_d2, c_d2n, c_dsh, c_i2l, c_l2i, c_lcm, c_dup, c_dup2, c_pop, c_j1, c_j2, c_jn, c_sw0, c_sw, c_gI, c_gL, c_gR, c_gS, c_pI, c_pZ, c_pL, c_pR, c_iald, c_ialg, c_iast, c_iasg, c_bald, c_bast, c_lald, c_last, c_aald, c_aals, c_aast, c_alen, c_bnd, c_str, c_bndl, c_bnln, c_sval, c_scod, c_sbal, c_sbln, c_fmt, c_stop, c_iret, c_zret, c_nret, c_aret, c_vret, c_lret, c_cpy, c_callV, c_callS, tkA, lget, lput, lkill, jpush, vsz, jcat, lins, lent, List.length_cons, List.length_nil, List.replicate, List.append_nil, List.cons_append, List.nil_append, reduceIte, Nat.reduceAdd, Nat.reduceSub, Nat.reduceEqDiff, true_and, and_true, Nat.reduceLeDiff, Nat.lt_irrefl, Nat.succ_ne_self, forall_const, ne_eq, not_true_eq_false, not_false_eq_true, false_implies, implies_true, true_implies, true_or, or_true, or_false, false_or, eq_self, Int.reduceEq, Int.reduceLT, Int.reduceLE, Int.reduceNeg, Int.reduceToNat, Int.reduceAdd, Int.reduceSub, Int.reduceMul, Int.reduceNe, and_self]
  refine ⟨by decide, by decide, by decide, by decide, by decide, by decide, ?_⟩
  have hst : ST l σ (env6 a1 a2 a3 a4 a5 a6) (sI (sI (sI (sI (sI (sI σ 25 l 0 a1) 25 l 1 a2) 25 l 2 a3) 25 l 3 a4) 25 l 4 a5) 25 l 5 a6) [] := by
    refine ⟨((((((AW.rf l σ).put (Or.inr rfl)).put (Or.inr rfl)).put (Or.inr rfl)).put (Or.inr rfl)).put (Or.inr rfl)).put (Or.inr rfl), fun k hk => ?_, fun i hi => absurd hi (by simp)⟩
    rcases (show k = 0 ∨ k = 1 ∨ k = 2 ∨ k = 3 ∨ k = 4 ∨ k = 5 by omega) with rfl | rfl | rfl | rfl | rfl | rfl <;> simp [g_sI, env6]
  refine wo_all (a1 := a1) (a2 := a2) (a3 := a3) (a4 := a4) (a5 := a5) (a6 := a6) h51 hC hB hL [] _ _ _ (by rw [List.append_nil]) hst (fun ho τ x y hs => ?_) (fun v ho τ hτ => ?_)
  · refine h51 _ _ _ ?_
    have e3 : τ.1 3 l 3 = C.length := by rw [hs.1.at (by omega)]; exact hC.1
    simp only [w_LA_worth_51, w_LA_worth_279, c_ic, c_lc, c_nul, c_il, c_ll, c_al, c_is, c_ls, c_as, c_inc, c_b2, c_b2n, c_b1, c_d2, c_d2n, c_dsh, c_i2l, c_l2i, c_lcm, c_dup, c_dup2, c_pop, c_j1, c_j2, c_jn, c_sw0, c_sw, c_gI, c_gL, c_gR, c_gS, c_pI, c_pZ, c_pL, c_pR, c_iald, c_ialg, c_iast, c_iasg, c_bald, c_bast, c_lald, c_last, c_aald, c_aals, c_aast, c_alen, c_bnd, c_str, c_bndl, c_bnln, c_sval, c_scod, c_sbal, c_sbln, c_fmt, c_stop, c_iret, c_zret, c_nret, c_aret, c_vret, c_lret, c_cpy, c_callV, c_callS, tkA, lget, lput, lkill, jpush, vsz, jcat, lins, lent, List.length_cons, List.length_nil, List.replicate, List.append_nil, List.cons_append, List.nil_append, reduceIte, Nat.reduceAdd, Nat.reduceSub, Nat.reduceEqDiff, true_and, and_true, Nat.reduceLeDiff, Nat.lt_irrefl, Nat.succ_ne_self, forall_const, ne_eq, not_true_eq_false, not_false_eq_true, false_implies, implies_true, true_implies, true_or, or_true, or_false, false_or, eq_self, Int.reduceEq, Int.reduceLT, Int.reduceLE, Int.reduceNeg, Int.reduceToNat, Int.reduceAdd, Int.reduceSub, Int.reduceMul, Int.reduceNe, and_self, e3]
    rw [ho] at h
    exact ⟨fun _ => h τ hs.1, fun z => absurd z (by omega)⟩
  · rw [ho] at h
    exact h τ hτ
