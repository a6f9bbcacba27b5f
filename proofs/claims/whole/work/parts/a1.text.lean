/-! ===== a1 text: the pair ===== -/
theorem sR41 {σ : jM} {v : Option Nat} : (sR σ 4 0 1 v).2.2 4 0 1 = v := by
  show (if 4 = 4 ∧ 0 = 0 ∧ 1 = 1 then v else σ.2.2 4 0 1) = v
  rw [if_pos ⟨rfl, rfl, rfl⟩]
theorem Fr.blk {σ : jM} {D : List (Nat × Nat)} {S : jS} (h : ∀ k j o, (k, j) ∈ D → S k j o) : Fr S σ (blk σ D) := fun k j o hs => by
  have z : (k, j) ∉ D := fun z => hs (h k j o z)
  exact ⟨if_neg z, if_neg z, if_neg z⟩
theorem fresh3 {N : Nat} {b : Int} (hN : N ≤ 4) (D : List (Nat × Nat)) (h : Dinv D N b) : (∀ q ∈ D, q ∉ nwD 3 (N + 1)) ∧ Dinv (D ++ nwD 3 (N + 1)) ((N + 1 : Nat) : Int) b := by
  refine ⟨fun q hq z => ?_, fun k j hm => ?_⟩
  · obtain ⟨k, j⟩ := q
    have h1 := (h k j hq).1
    simp only [nwD, List.mem_cons, Prod.mk.injEq, List.not_mem_nil, or_false] at z
    omega
  · rcases List.mem_append.mp hm with z | z
    · obtain ⟨h1, h2, h4⟩ := h k j z
      exact ⟨fun e => by have := h1 e; omega, h2, h4⟩
    · simp only [nwD, List.mem_cons, Prod.mk.injEq, List.not_mem_nil, or_false] at z
      exact ⟨fun e => by omega, fun e => by omega, by omega⟩
theorem fresh1 {P : Nat} {a : Int} (D : List (Nat × Nat)) (h : Dinv D a P) : (∀ q ∈ D, q ∉ nwD 1 (P + 1)) ∧ Dinv (D ++ nwD 1 (P + 1)) a ((P + 1 : Nat) : Int) := by
  refine ⟨fun q hq z => ?_, fun k j hm => ?_⟩
  · obtain ⟨k, j⟩ := q
    have h1 := (h k j hq).2.1
    simp only [nwD, List.mem_cons, Prod.mk.injEq, List.not_mem_nil, or_false] at z
    omega
  · rcases List.mem_append.mp hm with z | z
    · obtain ⟨h1, h2, h4⟩ := h k j z
      exact ⟨h1, fun e => by have := h2 e; omega, h4⟩
    · simp only [nwD, List.mem_cons, Prod.mk.injEq, List.not_mem_nil, or_false] at z
      exact ⟨fun e => by omega, fun e => by omega, by omega⟩
section KEEP
variable {σ : jM} {Φ : jPg} {d N P : Nat} {a b : Int}
def Skl' (N : Nat) : jS := fun k j o => (k = 49 ∧ j = 0 ∧ o = N) ∨ (k = 9 ∧ j = 0 ∧ (o = 12 ∨ o = 14)) ∨ (k = 7 ∧ j = 0 ∧ o = 1) ∨ (j = N + 1 ∧ (k = 3 ∨ (23 ≤ k ∧ k ≤ 25)))
def Skc' (P : Nat) : jS := fun k j o => (k = 50 ∧ j = 0 ∧ o = P) ∨ (k = 9 ∧ j = 0 ∧ (o = 13 ∨ o = 15)) ∨ (k = 7 ∧ j = 0 ∧ o = 1) ∨ (j = P + 1 ∧ (k = 1 ∨ k = 21 ∨ k = 22))
theorem ok_LB_keepLaw (hN : N ≤ 4) (h14 : σ.1 9 0 14 = N) (h12 : σ.2.2 9 0 12 = some N) (hno : N = 4 → Φ (some (.inl (-1))) σ N b) (hyes : N < 4 → ∀ τ, Fr (Skl' N) σ τ → τ.2.2 49 0 N = some N → τ.2.2 9 0 12 = some (N + 1) → τ.1 9 0 14 = ((N + 1 : Nat) : Int) → τ.1 7 0 1 = 0 → Φ (some (.inl N)) τ ((N + 1 : Nat) : Int) b) : CtG (d + 2) 4 284 M_LB_keepLaw [rf 9 0] σ N b Φ := by
  refine i_LB_keepLaw (a2 := ((N + 1 : Nat) : Int)) (b2 := b) (j := N + 1) (Nat.le_refl 1) (fun D hD => fresh3 hN D hD) ?_
  have l49 : jln 49 0 = 4 := rfl
  simp only [w_LB_keepLaw_0, w_LB_keepLaw_19, c_ic, c_lc, c_nul, c_il, c_ll, c_al, c_is, c_ls, c_as, c_inc, c_b2, c_b2n, c_b1, c_d2, c_d2n, c_dsh, c_i2l, c_l2i, c_lcm, c_dup, c_dup2, c_pop, c_j1, c_j2, c_jn, c_sw0, c_sw, c_gI, c_gL, c_gR, c_gS, c_pI, c_pZ, c_pL, c_pR, c_iald, c_ialg, c_iast, c_iasg, c_bald, c_bast, c_lald, c_last, c_aald, c_aals, c_aast, c_alen, c_bnd, c_str, c_bndl, c_bnln, c_sval, c_scod, c_sbal, c_sbln, c_fmt, c_stop, c_iret, c_zret, c_nret, c_aret, c_vret, c_lret, c_cpy, c_callV, c_callS, tkA, lget, lput, lkill, jpush, vsz, jcat, lins, lent, List.length_cons, List.length_nil, List.replicate, List.append_nil, List.cons_append, List.nil_append, reduceIte, Nat.reduceAdd, Nat.reduceSub, Nat.reduceEqDiff, true_and, and_true, Nat.reduceLeDiff, Nat.lt_irrefl, Nat.succ_ne_self, forall_const, ne_eq, not_true_eq_false, not_false_eq_true, false_implies, implies_true, true_implies, true_or, or_true, or_false, false_or, eq_self, Int.reduceEq, Int.reduceLT, Int.reduceLE, Int.reduceNeg, Int.reduceToNat, Int.reduceAdd, Int.reduceSub, Int.reduceMul, Int.reduceNe, and_self, c_iretG, h14, l49]
  refine ⟨fun z => absurd z (by omega), fun _ => ⟨⟨by decide, by decide⟩, fun z => ?_, fun z => hno (by omega)⟩⟩
  have z4 : N < 4 := by omega
  simp only [w_LB_keepLaw_21, c_ic, c_lc, c_nul, c_il, c_ll, c_al, c_is, c_ls, c_as, c_inc, c_b2, c_b2n, c_b1, c_d2, c_d2n, c_dsh, c_i2l, c_l2i, c_lcm, c_dup, c_dup2, c_pop, c_j1, c_j2, c_jn, c_sw0, c_sw, c_gI, c_gL, c_gR, c_gS, c_pI, c_pZ, c_pL, c_pR, c_iald, c_ialg, c_iast, c_iasg, c_bald, c_bast, c_lald, c_last, c_aald, c_aals, c_aast, c_alen, c_bnd, c_str, c_bndl, c_bnln, c_sval, c_scod, c_sbal, c_sbln, c_fmt, c_stop, c_iret, c_zret, c_nret, c_aret, c_vret, c_lret, c_cpy, c_callV, c_callS, tkA, lget, lput, lkill, jpush, vsz, jcat, lins, lent, List.length_cons, List.length_nil, List.replicate, List.append_nil, List.cons_append, List.nil_append, reduceIte, Nat.reduceAdd, Nat.reduceSub, Nat.reduceEqDiff, true_and, and_true, Nat.reduceLeDiff, Nat.lt_irrefl, Nat.succ_ne_self, forall_const, ne_eq, not_true_eq_false, not_false_eq_true, false_implies, implies_true, true_implies, true_or, or_true, or_false, false_or, eq_self, Int.reduceEq, Int.reduceLT, Int.reduceLE, Int.reduceNeg, Int.reduceToNat, Int.reduceAdd, Int.reduceSub, Int.reduceMul, Int.reduceNe, and_self, c_make, c_iretG, h14, h12, Int.toNat_natCast]
  refine ⟨⟨by omega, by omega⟩, ?_⟩
  have t0 : Fr (Skl' N) σ (blk (sR σ 49 0 N (some N)) (nwD 3 (N + 1))) := (Fr.rf.sR (by unfold Skl'; omega)).tr (Fr.blk (fun k j o hm => by
    simp only [nwD, List.mem_cons, Prod.mk.injEq, List.not_mem_nil, or_false] at hm
    unfold Skl'
    omega))
  have t1 : Fr (fun k j _ => j = N + 1 ∧ (k = 3 ∨ (23 ≤ k ∧ k ≤ 25))) (sR σ 49 0 N (some N)) (blk (sR σ 49 0 N (some N)) (nwD 3 (N + 1))) := Fr.blk (fun k j o hm => by
    simp only [nwD, List.mem_cons, Prod.mk.injEq, List.not_mem_nil, or_false] at hm
    omega)
  generalize blk (sR σ 49 0 N (some N)) (nwD 3 (N + 1)) = ρ at *
  have c14 : ρ.1 9 0 14 = N := by rw [t1.i (by omega)]; exact h14
  have c49 : ρ.2.2 49 0 N = some N := by
    rw [t1.r (by omega)]
    show (if 49 = 49 ∧ 0 = 0 ∧ N = N then some N else σ.2.2 49 0 N) = some N
    rw [if_pos ⟨rfl, rfl, rfl⟩]
  have e14 : (sR ρ 9 0 12 (some (N + 1))).1 9 0 14 = N := c14
  have w1 : wr ((N : Int) + 1) = ((N + 1 : Nat) : Int) := by rw [wr_id (by omega) (by omega)]; omega
  have w2 : wr (((N + 1 : Nat) : Int) - 1) = N := by rw [wr_id (by omega) (by omega)]; omega
  have f14 : ∀ x : Int, (sI (sI (sR ρ 9 0 12 (some (N + 1))) 9 0 14 x) 7 0 1 0).1 9 0 14 = x := fun x => rfl
  simp only [e14, w1, f14, w2]
  refine hyes z4 _ (((t0.sR (by unfold Skl'; omega)).sI (by unfold Skl'; omega)).sI (by unfold Skl'; omega)) c49 rfl rfl rfl
theorem ok_LB_keepCampaign (hP : P ≤ 4) (h15 : σ.1 9 0 15 = P) (h13 : σ.2.2 9 0 13 = some P) (hno : P = 4 → Φ (some (.inl (-1))) σ a P) (hyes : P < 4 → ∀ τ, Fr (Skc' P) σ τ → τ.2.2 50 0 P = some P → τ.2.2 9 0 13 = some (P + 1) → τ.1 9 0 15 = ((P + 1 : Nat) : Int) → τ.1 7 0 1 = 0 → Φ (some (.inl P)) τ a ((P + 1 : Nat) : Int)) : CtG (d + 2) 3 35 M_LB_keepCampaign [rf 9 0] σ a P Φ := by
  refine i_LB_keepCampaign (a2 := a) (b2 := ((P + 1 : Nat) : Int)) (j := P + 1) (Nat.le_refl 1) (fun D hD => fresh1 D hD) ?_
  have l50 : jln 50 0 = 4 := rfl
  simp only [w_LB_keepCampaign_0, w_LB_keepCampaign_19, c_ic, c_lc, c_nul, c_il, c_ll, c_al, c_is, c_ls, c_as, c_inc, c_b2, c_b2n, c_b1, c_d2, c_d2n, c_dsh, c_i2l, c_l2i, c_lcm, c_dup, c_dup2, c_pop, c_j1, c_j2, c_jn, c_sw0, c_sw, c_gI, c_gL, c_gR, c_gS, c_pI, c_pZ, c_pL, c_pR, c_iald, c_ialg, c_iast, c_iasg, c_bald, c_bast, c_lald, c_last, c_aald, c_aals, c_aast, c_alen, c_bnd, c_str, c_bndl, c_bnln, c_sval, c_scod, c_sbal, c_sbln, c_fmt, c_stop, c_iret, c_zret, c_nret, c_aret, c_vret, c_lret, c_cpy, c_callV, c_callS, tkA, lget, lput, lkill, jpush, vsz, jcat, lins, lent, List.length_cons, List.length_nil, List.replicate, List.append_nil, List.cons_append, List.nil_append, reduceIte, Nat.reduceAdd, Nat.reduceSub, Nat.reduceEqDiff, true_and, and_true, Nat.reduceLeDiff, Nat.lt_irrefl, Nat.succ_ne_self, forall_const, ne_eq, not_true_eq_false, not_false_eq_true, false_implies, implies_true, true_implies, true_or, or_true, or_false, false_or, eq_self, Int.reduceEq, Int.reduceLT, Int.reduceLE, Int.reduceNeg, Int.reduceToNat, Int.reduceAdd, Int.reduceSub, Int.reduceMul, Int.reduceNe, and_self, c_iretG, h15, l50]
  refine ⟨fun z => absurd z (by omega), fun _ => ⟨⟨by decide, by decide⟩, fun z => ?_, fun z => hno (by omega)⟩⟩
  have z4 : P < 4 := by omega
  simp only [w_LB_keepCampaign_21, c_ic, c_lc, c_nul, c_il, c_ll, c_al, c_is, c_ls, c_as, c_inc, c_b2, c_b2n, c_b1, c_d2, c_d2n, c_dsh, c_i2l, c_l2i, c_lcm, c_dup, c_dup2, c_pop, c_j1, c_j2, c_jn, c_sw0, c_sw, c_gI, c_gL, c_gR, c_gS, c_pI, c_pZ, c_pL, c_pR, c_iald, c_ialg, c_iast, c_iasg, c_bald, c_bast, c_lald, c_last, c_aald, c_aals, c_aast, c_alen, c_bnd, c_str, c_bndl, c_bnln, c_sval, c_scod, c_sbal, c_sbln, c_fmt, c_stop, c_iret, c_zret, c_nret, c_aret, c_vret, c_lret, c_cpy, c_callV, c_callS, tkA, lget, lput, lkill, jpush, vsz, jcat, lins, lent, List.length_cons, List.length_nil, List.replicate, List.append_nil, List.cons_append, List.nil_append, reduceIte, Nat.reduceAdd, Nat.reduceSub, Nat.reduceEqDiff, true_and, and_true, Nat.reduceLeDiff, Nat.lt_irrefl, Nat.succ_ne_self, forall_const, ne_eq, not_true_eq_false, not_false_eq_true, false_implies, implies_true, true_implies, true_or, or_true, or_false, false_or, eq_self, Int.reduceEq, Int.reduceLT, Int.reduceLE, Int.reduceNeg, Int.reduceToNat, Int.reduceAdd, Int.reduceSub, Int.reduceMul, Int.reduceNe, and_self, c_make, c_iretG, h15, h13, Int.toNat_natCast]
  refine ⟨⟨by omega, by omega⟩, ?_⟩
  have t0 : Fr (Skc' P) σ (blk (sR σ 50 0 P (some P)) (nwD 1 (P + 1))) := (Fr.rf.sR (by unfold Skc'; omega)).tr (Fr.blk (fun k j o hm => by
    simp only [nwD, List.mem_cons, Prod.mk.injEq, List.not_mem_nil, or_false] at hm
    unfold Skc'
    omega))
  have t1 : Fr (fun k j _ => j = P + 1 ∧ (k = 1 ∨ k = 21 ∨ k = 22)) (sR σ 50 0 P (some P)) (blk (sR σ 50 0 P (some P)) (nwD 1 (P + 1))) := Fr.blk (fun k j o hm => by
    simp only [nwD, List.mem_cons, Prod.mk.injEq, List.not_mem_nil, or_false] at hm
    omega)
  generalize blk (sR σ 50 0 P (some P)) (nwD 1 (P + 1)) = ρ at *
  have c15 : ρ.1 9 0 15 = P := by rw [t1.i (by omega)]; exact h15
  have c50 : ρ.2.2 50 0 P = some P := by
    rw [t1.r (by omega)]
    show (if 50 = 50 ∧ 0 = 0 ∧ P = P then some P else σ.2.2 50 0 P) = some P
    rw [if_pos ⟨rfl, rfl, rfl⟩]
  have e15 : (sR ρ 9 0 13 (some (P + 1))).1 9 0 15 = P := c15
  have w1 : wr ((P : Int) + 1) = ((P + 1 : Nat) : Int) := by rw [wr_id (by omega) (by omega)]; omega
  have w2 : wr (((P + 1 : Nat) : Int) - 1) = P := by rw [wr_id (by omega) (by omega)]; omega
  have f15 : ∀ x : Int, (sI (sI (sR ρ 9 0 13 (some (P + 1))) 9 0 15 x) 7 0 1 0).1 9 0 15 = x := fun x => rfl
  simp only [e15, w1, f15, w2]
  refine hyes z4 _ (((t0.sR (by unfold Skc'; omega)).sI (by unfold Skc'; omega)).sI (by unfold Skc'; omega)) c50 rfl rfl rfl
end KEEP
/-- text of the class, then of the model: alike, and the state stands again -/
theorem pr_text {a : Int} {σ : jM} {q : Nat × Nat} (hJ : J q σ) : CtG 60 5 286 M_LB_text [rf 9 0, .inl a] σ q.1 q.2 (fun x τ c e => (∃ v : Int, x = some (.inl v)) ∧ ∃ q' : Nat × Nat, c = q'.1 ∧ e = q'.2 ∧ Ct 60 M_MO_text [rf 10 0, .inl a] τ (fun y τ' => y = x ∧ J q' τ')) := by
  obtain ⟨n, T, K, F, r, N, P, CL, PL, U, nt, rfl, hJx⟩ := id hJ
  obtain ⟨hT, hR, hW, hA, hI, hK, hM, hP, hN, hG⟩ := id hJx
  obtain ⟨⟨a0, f0, tv⟩, tm⟩ := id hT
  have hsg : sgs n T := tm.1.2.2.2.2
  have r2 := hR.2.2.1
  have N4 := hM.1.1
  have P4 := hP.1
  have fin : ∀ τ τ' : jM, Fr (Sg r N P) σ τ → (∃ (a : Nat) (f : Int), TV τ n T a f) → Fr Sh τ τ' → J (N, P) τ' := by
    intro τ τ' h1 h2 h3
    have hJ1 := hJx.rd h1 h2
    refine ⟨n, T, K, F, r, N, P, CL, PL, U, nt, rfl, hJ1.rd (h3.wk (fun _ _ _ q => q.g)) ?_⟩
    obtain ⟨b, f, hb⟩ := h2
    exact ⟨b, f, hb.fr h3 (fun k j o q w => by simp only [Sh] at w; omega)⟩
  have ft : ∀ τ : jM, Fr (Sg r N P) σ τ → TM τ n T := fun τ h1 => ⟨tm.1.fr h1 (fun o w => by simp only [Sg, Sc] at w; omega), by rw [h1.i (by simp only [Sg, Sc]; omega)]; exact tm.2⟩
  rcases (show a = 0 ∨ a = 1 ∨ a = 2 ∨ (a ≠ 0 ∧ a ≠ 1 ∧ a ≠ 2) by omega) with rfl | rfl | rfl | ha
  · refine i_LB_text (Nat.le_refl 2) ?_
    simp only [w_LB_text_0, w_LB_text_28, w_LB_text_50, w_LB_text_51, c_ic, c_lc, c_nul, c_il, c_ll, c_al, c_is, c_ls, c_as, c_inc, c_b2, c_b2n, c_b1, c_d2, c_d2n, c_dsh, c_i2l, c_l2i, c_lcm, c_dup, c_dup2, c_pop, c_j1, c_j2, c_jn, c_sw0, c_sw, c_gI, c_gL, c_gR, c_gS, c_pI, c_pZ, c_pL, c_pR, c_iald, c_ialg, c_iast, c_iasg, c_bald, c_bast, c_lald, c_last, c_aald, c_aals, c_aast, c_alen, c_bnd, c_str, c_bndl, c_bnln, c_sval, c_scod, c_sbal, c_sbln, c_fmt, c_stop, c_iret, c_zret, c_nret, c_aret, c_vret, c_lret, c_cpy, c_callV, c_callS, tkA, lget, lput, lkill, jpush, vsz, jcat, lins, lent, List.length_cons, List.length_nil, List.replicate, List.append_nil, List.cons_append, List.nil_append, reduceIte, Nat.reduceAdd, Nat.reduceSub, Nat.reduceEqDiff, true_and, and_true, Nat.reduceLeDiff, Nat.lt_irrefl, Nat.succ_ne_self, forall_const, ne_eq, not_true_eq_false, not_false_eq_true, false_implies, implies_true, true_implies, true_or, or_true, or_false, false_or, eq_self, Int.reduceEq, Int.reduceLT, Int.reduceLE, Int.reduceNeg, Int.reduceToNat, Int.reduceAdd, Int.reduceSub, Int.reduceMul, Int.reduceNe, and_self, c_iretG, hR.2.1]
    refine ok_RE_readFrom (r := 1 - r) hsg tv ?_
    have hs : ∀ k j o, SRe (1 - r) k j o → Sg r N P k j o := fun k j o q => q.elim (fun q => Or.inr (Or.inl q)) (fun q => Or.inr (Or.inr (Or.inl q)))
    cases hq : pRealm T n with
    | inl p =>
      intro τ t1 t2
      simp only [c_ic, c_lc, c_nul, c_il, c_ll, c_al, c_is, c_ls, c_as, c_inc, c_b2, c_b2n, c_b1, c_d2, c_d2n, c_dsh, c_i2l, c_l2i, c_lcm, c_dup, c_dup2, c_pop, c_j1, c_j2, c_jn, c_sw0, c_sw, c_gI, c_gL, c_gR, c_gS, c_pI, c_pZ, c_pL, c_pR, c_iald, c_ialg, c_iast, c_iasg, c_bald, c_bast, c_lald, c_last, c_aald, c_aals, c_aast, c_alen, c_bnd, c_str, c_bndl, c_bnln, c_sval, c_scod, c_sbal, c_sbln, c_fmt, c_stop, c_iret, c_zret, c_nret, c_aret, c_vret, c_lret, c_cpy, c_callV, c_callS, tkA, lget, lput, lkill, jpush, vsz, jcat, lins, lent, List.length_cons, List.length_nil, List.replicate, List.append_nil, List.cons_append, List.nil_append, reduceIte, Nat.reduceAdd, Nat.reduceSub, Nat.reduceEqDiff, true_and, and_true, Nat.reduceLeDiff, Nat.lt_irrefl, Nat.succ_ne_self, forall_const, ne_eq, not_true_eq_false, not_false_eq_true, false_implies, implies_true, true_implies, true_or, or_true, or_false, false_or, eq_self, Int.reduceEq, Int.reduceLT, Int.reduceLE, Int.reduceNeg, Int.reduceToNat, Int.reduceAdd, Int.reduceSub, Int.reduceMul, Int.reduceNe, and_self]
      refine ⟨fun _ => ?_, fun w => absurd w (by omega)⟩
      refine ⟨⟨_, rfl⟩, (N, P), rfl, rfl, ok_MO_text0 (ft τ (t1.wk hs)) ?_⟩
      rw [hq]
      exact fun τ' t3 => ⟨rfl, fin τ τ' (t1.wk hs) ⟨_, _, t2⟩ t3⟩
    | inr s =>
      intro b τ t1 t2 t3
      simp only [c_ic, c_lc, c_nul, c_il, c_ll, c_al, c_is, c_ls, c_as, c_inc, c_b2, c_b2n, c_b1, c_d2, c_d2n, c_dsh, c_i2l, c_l2i, c_lcm, c_dup, c_dup2, c_pop, c_j1, c_j2, c_jn, c_sw0, c_sw, c_gI, c_gL, c_gR, c_gS, c_pI, c_pZ, c_pL, c_pR, c_iald, c_ialg, c_iast, c_iasg, c_bald, c_bast, c_lald, c_last, c_aald, c_aals, c_aast, c_alen, c_bnd, c_str, c_bndl, c_bnln, c_sval, c_scod, c_sbal, c_sbln, c_fmt, c_stop, c_iret, c_zret, c_nret, c_aret, c_vret, c_lret, c_cpy, c_callV, c_callS, tkA, lget, lput, lkill, jpush, vsz, jcat, lins, lent, List.length_cons, List.length_nil, List.replicate, List.append_nil, List.cons_append, List.nil_append, reduceIte, Nat.reduceAdd, Nat.reduceSub, Nat.reduceEqDiff, true_and, and_true, Nat.reduceLeDiff, Nat.lt_irrefl, Nat.succ_ne_self, forall_const, ne_eq, not_true_eq_false, not_false_eq_true, false_implies, implies_true, true_implies, true_or, or_true, or_false, false_or, eq_self, Int.reduceEq, Int.reduceLT, Int.reduceLE, Int.reduceNeg, Int.reduceToNat, Int.reduceAdd, Int.reduceSub, Int.reduceMul, Int.reduceNe, and_self]
      have g10 : τ.2.2 9 0 10 = some r := by rw [t1.r (by simp only [SRe]; omega)]; exact hR.1
      have g11 : τ.2.2 9 0 11 = some (1 - r) := by rw [t1.r (by simp only [SRe]; omega)]; exact hR.2.1
      refine ok_LB_foundRealm r2 g10 g11 t3 (fun υ u1 u2 => ?_)
      have hF : Fr (fun k j o => Sg r N P k j o ∨ Sfr k j o) σ υ := (t1.wk (fun k j o q => Or.inl (hs k j o q))).tr (u1.wk (fun k j o q => Or.inr q))
      have hat : ∃ b : Nat, υ.1 7 0 2 = b := ⟨b, by rw [u1.i (by simp only [Sfr]; omega)]; exact t2.2.2.2.1⟩
      have tm' : TM υ n T := ⟨tm.1.fr hF (fun o w => by simp only [Sg, Sc, Sfr] at w; omega), by rw [hF.i (by simp only [Sg, Sc, Sfr]; omega)]; exact tm.2⟩
      refine ⟨⟨_, rfl⟩, (N, P), rfl, rfl, ok_MO_text0 tm' ?_⟩
      rw [hq]
      exact fun τ' t4 t5 => ⟨rfl, tJ0 hJx hq hF hat u2 t4 t5⟩
  · refine i_LB_text (Nat.le_refl 2) ?_
    simp only [w_LB_text_0, w_LB_text_52, w_LB_text_81, w_LB_text_82, c_ic, c_lc, c_nul, c_il, c_ll, c_al, c_is, c_ls, c_as, c_inc, c_b2, c_b2n, c_b1, c_d2, c_d2n, c_dsh, c_i2l, c_l2i, c_lcm, c_dup, c_dup2, c_pop, c_j1, c_j2, c_jn, c_sw0, c_sw, c_gI, c_gL, c_gR, c_gS, c_pI, c_pZ, c_pL, c_pR, c_iald, c_ialg, c_iast, c_iasg, c_bald, c_bast, c_lald, c_last, c_aald, c_aals, c_aast, c_alen, c_bnd, c_str, c_bndl, c_bnln, c_sval, c_scod, c_sbal, c_sbln, c_fmt, c_stop, c_iret, c_zret, c_nret, c_aret, c_vret, c_lret, c_cpy, c_callV, c_callS, tkA, lget, lput, lkill, jpush, vsz, jcat, lins, lent, List.length_cons, List.length_nil, List.replicate, List.append_nil, List.cons_append, List.nil_append, reduceIte, Nat.reduceAdd, Nat.reduceSub, Nat.reduceEqDiff, true_and, and_true, Nat.reduceLeDiff, Nat.lt_irrefl, Nat.succ_ne_self, forall_const, ne_eq, not_true_eq_false, not_false_eq_true, false_implies, implies_true, true_implies, true_or, or_true, or_false, false_or, eq_self, Int.reduceEq, Int.reduceLT, Int.reduceLE, Int.reduceNeg, Int.reduceToNat, Int.reduceAdd, Int.reduceSub, Int.reduceMul, Int.reduceNe, and_self, c_iretG, c_callG]
    refine c_read_in (j9 := 0) (j := N) (Nat.zero_le _) (by decide) rfl hK.2.2.1 ?_
    refine ok_LR_readLaw (a := a0) (f := f0) (l := N) hsg (by decide) (show TV (sR σ 4 0 1 (some N)) n T a0 f0 from tv) sR41 ?_
    have hs : ∀ τ, AG N (sR σ 4 0 1 (some N)) τ → Fr (Sg r N P) σ τ := fun τ t1 => (Fr.rf.sR (k := 4) (j := 0) (o := 1) (Or.inl (by unfold Sc; omega))).tr (t1.fr.wk (fun k j o q => by
      rcases q with q | q | q
      · exact Or.inr (Or.inl q)
      · exact Or.inr (Or.inr (Or.inr (Or.inl ⟨q.2.1, Or.inl q.1⟩)))
      · exact Or.inr (Or.inr (Or.inr (Or.inl ⟨q.2, Or.inr q.1⟩)))))
    have c7 : ∀ τ, Fr (Sg r N P) σ τ → τ.1 10 0 7 = N := fun τ h1 => by rw [h1.i (by simp only [Sg, Sc]; omega)]; exact hK.2.1
    cases hq : pLaw T n with
    | inl p =>
      intro τ t1 t2 _
      refine ⟨_, rfl, ?_⟩
      simp only [c_ic, c_lc, c_nul, c_il, c_ll, c_al, c_is, c_ls, c_as, c_inc, c_b2, c_b2n, c_b1, c_d2, c_d2n, c_dsh, c_i2l, c_l2i, c_lcm, c_dup, c_dup2, c_pop, c_j1, c_j2, c_jn, c_sw0, c_sw, c_gI, c_gL, c_gR, c_gS, c_pI, c_pZ, c_pL, c_pR, c_iald, c_ialg, c_iast, c_iasg, c_bald, c_bast, c_lald, c_last, c_aald, c_aals, c_aast, c_alen, c_bnd, c_str, c_bndl, c_bnln, c_sval, c_scod, c_sbal, c_sbln, c_fmt, c_stop, c_iret, c_zret, c_nret, c_aret, c_vret, c_lret, c_cpy, c_callV, c_callS, tkA, lget, lput, lkill, jpush, vsz, jcat, lins, lent, List.length_cons, List.length_nil, List.replicate, List.append_nil, List.cons_append, List.nil_append, reduceIte, Nat.reduceAdd, Nat.reduceSub, Nat.reduceEqDiff, true_and, and_true, Nat.reduceLeDiff, Nat.lt_irrefl, Nat.succ_ne_self, forall_const, ne_eq, not_true_eq_false, not_false_eq_true, false_implies, implies_true, true_implies, true_or, or_true, or_false, false_or, eq_self, Int.reduceEq, Int.reduceLT, Int.reduceLE, Int.reduceNeg, Int.reduceToNat, Int.reduceAdd, Int.reduceSub, Int.reduceMul, Int.reduceNe, and_self, c_iretG]
      refine ⟨fun _ => ?_, fun w => absurd w (by omega)⟩
      refine ⟨⟨_, rfl⟩, (N, P), rfl, rfl, ok_MO_text1 (ft τ (hs τ t1)) ((hJx.rd (hs τ t1) ⟨_, _, t2⟩).2.2.2.2.2.2.1) (c7 τ (hs τ t1)) (fun _ τ' t3 => ⟨rfl, fin τ τ' (hs τ t1) ⟨_, _, t2⟩ t3⟩) (fun _ => ?_)⟩
      rw [hq]
      exact fun τ' t3 => ⟨rfl, fin τ τ' (hs τ t1) ⟨_, _, t2⟩ t3⟩
    | inr q =>
      intro τ t1 t2 t3
      refine ⟨_, rfl, ?_⟩
      simp only [c_ic, c_lc, c_nul, c_il, c_ll, c_al, c_is, c_ls, c_as, c_inc, c_b2, c_b2n, c_b1, c_d2, c_d2n, c_dsh, c_i2l, c_l2i, c_lcm, c_dup, c_dup2, c_pop, c_j1, c_j2, c_jn, c_sw0, c_sw, c_gI, c_gL, c_gR, c_gS, c_pI, c_pZ, c_pL, c_pR, c_iald, c_ialg, c_iast, c_iasg, c_bald, c_bast, c_lald, c_last, c_aald, c_aals, c_aast, c_alen, c_bnd, c_str, c_bndl, c_bnln, c_sval, c_scod, c_sbal, c_sbln, c_fmt, c_stop, c_iret, c_zret, c_nret, c_aret, c_vret, c_lret, c_cpy, c_callV, c_callS, tkA, lget, lput, lkill, jpush, vsz, jcat, lins, lent, List.length_cons, List.length_nil, List.replicate, List.append_nil, List.cons_append, List.nil_append, reduceIte, Nat.reduceAdd, Nat.reduceSub, Nat.reduceEqDiff, true_and, and_true, Nat.reduceLeDiff, Nat.lt_irrefl, Nat.succ_ne_self, forall_const, ne_eq, not_true_eq_false, not_false_eq_true, false_implies, implies_true, true_implies, true_or, or_true, or_false, false_or, eq_self, Int.reduceEq, Int.reduceLT, Int.reduceLE, Int.reduceNeg, Int.reduceToNat, Int.reduceAdd, Int.reduceSub, Int.reduceMul, Int.reduceNe, and_self, c_callG, c_iretG]
      have g14 : τ.1 9 0 14 = N := by rw [(hs τ t1).i (by simp only [Sg, Sc]; omega)]; exact hK.1
      have g12 : τ.2.2 9 0 12 = some N := by rw [(hs τ t1).r (by simp only [Sg, Sc]; omega)]; exact hK.2.2.1
      refine ok_LB_keepLaw N4 g14 g12 (fun z4 => ?_) (fun z4 υ u1 u2 u3 u4 u5 => ?_)
      · refine ⟨⟨_, rfl⟩, (N, P), rfl, rfl, ok_MO_text1 (ft τ (hs τ t1)) ((hJx.rd (hs τ t1) ⟨_, _, t2⟩).2.2.2.2.2.2.1) (c7 τ (hs τ t1)) (fun _ τ' t3 => ⟨rfl, fin τ τ' (hs τ t1) ⟨_, _, t2⟩ t3⟩) (fun z => absurd z (by omega))⟩
      · have hF : Fr (Skl r N P) σ υ := ((hs τ t1).wk (fun k j o q => Or.inl q)).tr (u1.wk (fun k j o q => Or.inr q))
        have hat : ∃ b : Nat, υ.1 7 0 2 = b := ⟨n, by rw [u1.i (by simp only [Skl']; omega)]; exact t2.2.2.2.1⟩
        have lv : LV υ N q.2 := t3.fr u1 (fun o w => by simp only [Skl'] at w; omega) (fun o w => by simp only [Skl'] at w; omega)
        have tm' : TM υ n T := ⟨tm.1.fr hF (fun o w => by simp only [Skl, Sg, Sc] at w; omega), by rw [hF.i (by simp only [Skl, Sg, Sc]; omega)]; exact tm.2⟩
        have mi : MI υ N CL := hM.fr hF (fun k j o q w => by simp only [fM, Skl, Sg, Sc] at q w; omega)
        have c7' : υ.1 10 0 7 = N := by rw [hF.i (by simp only [Skl, Sg, Sc]; omega)]; exact hK.2.1
        refine ⟨⟨_, rfl⟩, (N + 1, P), rfl, rfl, ok_MO_text1 tm' mi c7' (fun z => absurd z (by omega)) (fun _ => ?_)⟩
        rw [hq]
        exact fun lok τ' t4 m1 m2 m3 m4 => ⟨rfl, tJ1 (b := q.1) hJx z4 hq lok hF hat lv u2 u3 u4 u5 t4 m1 m2 m3 m4⟩
  · refine i_LB_text (Nat.le_refl 2) ?_
    simp only [w_LB_text_0, w_LB_text_83, w_LB_text_105, w_LB_text_106, c_ic, c_lc, c_nul, c_il, c_ll, c_al, c_is, c_ls, c_as, c_inc, c_b2, c_b2n, c_b1, c_d2, c_d2n, c_dsh, c_i2l, c_l2i, c_lcm, c_dup, c_dup2, c_pop, c_j1, c_j2, c_jn, c_sw0, c_sw, c_gI, c_gL, c_gR, c_gS, c_pI, c_pZ, c_pL, c_pR, c_iald, c_ialg, c_iast, c_iasg, c_bald, c_bast, c_lald, c_last, c_aald, c_aals, c_aast, c_alen, c_bnd, c_str, c_bndl, c_bnln, c_sval, c_scod, c_sbal, c_sbln, c_fmt, c_stop, c_iret, c_zret, c_nret, c_aret, c_vret, c_lret, c_cpy, c_callV, c_callS, tkA, lget, lput, lkill, jpush, vsz, jcat, lins, lent, List.length_cons, List.length_nil, List.replicate, List.append_nil, List.cons_append, List.nil_append, reduceIte, Nat.reduceAdd, Nat.reduceSub, Nat.reduceEqDiff, true_and, and_true, Nat.reduceLeDiff, Nat.lt_irrefl, Nat.succ_ne_self, forall_const, ne_eq, not_true_eq_false, not_false_eq_true, false_implies, implies_true, true_implies, true_or, or_true, or_false, false_or, eq_self, Int.reduceEq, Int.reduceLT, Int.reduceLE, Int.reduceNeg, Int.reduceToNat, Int.reduceAdd, Int.reduceSub, Int.reduceMul, Int.reduceNe, and_self, c_iretG, c_callG, hP.2.2.2.1]
    refine ok_CA_readFrom (c := P) hsg tv ?_
    have hs : ∀ k j o, SCa P k j o → Sg r N P k j o := fun k j o q => by
      rcases q with q | q
      · exact Or.inr (Or.inl q)
      · exact Or.inr (Or.inr (Or.inr (Or.inr (Or.inl ⟨q.1, by omega⟩))))
    have c30 : ∀ τ, Fr (Sg r N P) σ τ → τ.1 10 0 30 = P := fun τ h1 => by rw [h1.i (by simp only [Sg, Sc]; omega)]; exact hP.2.2.1
    cases hq : pPlan T n with
    | inl p =>
      intro τ t1 t2
      simp only [c_ic, c_lc, c_nul, c_il, c_ll, c_al, c_is, c_ls, c_as, c_inc, c_b2, c_b2n, c_b1, c_d2, c_d2n, c_dsh, c_i2l, c_l2i, c_lcm, c_dup, c_dup2, c_pop, c_j1, c_j2, c_jn, c_sw0, c_sw, c_gI, c_gL, c_gR, c_gS, c_pI, c_pZ, c_pL, c_pR, c_iald, c_ialg, c_iast, c_iasg, c_bald, c_bast, c_lald, c_last, c_aald, c_aals, c_aast, c_alen, c_bnd, c_str, c_bndl, c_bnln, c_sval, c_scod, c_sbal, c_sbln, c_fmt, c_stop, c_iret, c_zret, c_nret, c_aret, c_vret, c_lret, c_cpy, c_callV, c_callS, tkA, lget, lput, lkill, jpush, vsz, jcat, lins, lent, List.length_cons, List.length_nil, List.replicate, List.append_nil, List.cons_append, List.nil_append, reduceIte, Nat.reduceAdd, Nat.reduceSub, Nat.reduceEqDiff, true_and, and_true, Nat.reduceLeDiff, Nat.lt_irrefl, Nat.succ_ne_self, forall_const, ne_eq, not_true_eq_false, not_false_eq_true, false_implies, implies_true, true_implies, true_or, or_true, or_false, false_or, eq_self, Int.reduceEq, Int.reduceLT, Int.reduceLE, Int.reduceNeg, Int.reduceToNat, Int.reduceAdd, Int.reduceSub, Int.reduceMul, Int.reduceNe, and_self]
      refine ⟨fun _ => ?_, fun w => absurd w (by omega)⟩
      refine ⟨⟨_, rfl⟩, (N, P), rfl, rfl, ok_MO_text2 (ft τ (t1.wk hs)) P4 (c30 τ (t1.wk hs)) (fun _ τ' t3 => ⟨rfl, fin τ τ' (t1.wk hs) ⟨_, _, t2⟩ t3⟩) (fun _ => ?_)⟩
      rw [hq]
      exact fun τ' t3 => ⟨rfl, fin τ τ' (t1.wk hs) ⟨_, _, t2⟩ t3⟩
    | inr l =>
      intro b τ t1 t2 t3
      simp only [c_ic, c_lc, c_nul, c_il, c_ll, c_al, c_is, c_ls, c_as, c_inc, c_b2, c_b2n, c_b1, c_d2, c_d2n, c_dsh, c_i2l, c_l2i, c_lcm, c_dup, c_dup2, c_pop, c_j1, c_j2, c_jn, c_sw0, c_sw, c_gI, c_gL, c_gR, c_gS, c_pI, c_pZ, c_pL, c_pR, c_iald, c_ialg, c_iast, c_iasg, c_bald, c_bast, c_lald, c_last, c_aald, c_aals, c_aast, c_alen, c_bnd, c_str, c_bndl, c_bnln, c_sval, c_scod, c_sbal, c_sbln, c_fmt, c_stop, c_iret, c_zret, c_nret, c_aret, c_vret, c_lret, c_cpy, c_callV, c_callS, tkA, lget, lput, lkill, jpush, vsz, jcat, lins, lent, List.length_cons, List.length_nil, List.replicate, List.append_nil, List.cons_append, List.nil_append, reduceIte, Nat.reduceAdd, Nat.reduceSub, Nat.reduceEqDiff, true_and, and_true, Nat.reduceLeDiff, Nat.lt_irrefl, Nat.succ_ne_self, forall_const, ne_eq, not_true_eq_false, not_false_eq_true, false_implies, implies_true, true_implies, true_or, or_true, or_false, false_or, eq_self, Int.reduceEq, Int.reduceLT, Int.reduceLE, Int.reduceNeg, Int.reduceToNat, Int.reduceAdd, Int.reduceSub, Int.reduceMul, Int.reduceNe, and_self]
      have g15 : τ.1 9 0 15 = P := by rw [(t1.wk hs).i (by simp only [Sg, Sc]; omega)]; exact hP.2.1
      have g13 : τ.2.2 9 0 13 = some P := by rw [(t1.wk hs).r (by simp only [Sg, Sc]; omega)]; exact hP.2.2.2.1
      refine ok_LB_keepCampaign P4 g15 g13 (fun z4 => ?_) (fun z4 υ u1 u2 u3 u4 u5 => ?_)
      · refine ⟨⟨_, rfl⟩, (N, P), rfl, rfl, ok_MO_text2 (ft τ (t1.wk hs)) P4 (c30 τ (t1.wk hs)) (fun _ τ' t3 => ⟨rfl, fin τ τ' (t1.wk hs) ⟨_, _, t2⟩ t3⟩) (fun z => absurd z (by omega))⟩
      · have hF : Fr (Skc r N P) σ υ := ((t1.wk hs).wk (fun k j o q => Or.inl q)).tr (u1.wk (fun k j o q => Or.inr q))
        have hat : ∃ b : Nat, υ.1 7 0 2 = b := ⟨b, by rw [u1.i (by simp only [Skc']; omega)]; exact t2.2.2.2.1⟩
        have pv : PV υ P l := t3.fr u1 (fun k o q w => by simp only [Skc'] at w; omega)
        have tm' : TM υ n T := ⟨tm.1.fr hF (fun o w => by simp only [Skc, Sg, Sc] at w; omega), by rw [hF.i (by simp only [Skc, Sg, Sc]; omega)]; exact tm.2⟩
        have c30' : υ.1 10 0 30 = P := by rw [hF.i (by simp only [Skc, Sg, Sc]; omega)]; exact hP.2.2.1
        refine ⟨⟨_, rfl⟩, (N, P + 1), rfl, rfl, ok_MO_text2 tm' P4 c30' (fun z => absurd z (by omega)) (fun _ => ?_)⟩
        rw [hq]
        exact fun τ' t4 m1 m2 _ m3 m4 => ⟨rfl, tJ2 hJx z4 (pPlan_ok hsg hq) hF hat pv u2 u3 u4 u5 t4 m1 m2 m3 m4⟩
  · refine i_LB_text (Nat.le_refl 2) ?_
    simp only [w_LB_text_0, w_LB_text_107, c_ic, c_lc, c_nul, c_il, c_ll, c_al, c_is, c_ls, c_as, c_inc, c_b2, c_b2n, c_b1, c_d2, c_d2n, c_dsh, c_i2l, c_l2i, c_lcm, c_dup, c_dup2, c_pop, c_j1, c_j2, c_jn, c_sw0, c_sw, c_gI, c_gL, c_gR, c_gS, c_pI, c_pZ, c_pL, c_pR, c_iald, c_ialg, c_iast, c_iasg, c_bald, c_bast, c_lald, c_last, c_aald, c_aals, c_aast, c_alen, c_bnd, c_str, c_bndl, c_bnln, c_sval, c_scod, c_sbal, c_sbln, c_fmt, c_stop, c_iret, c_zret, c_nret, c_aret, c_vret, c_lret, c_cpy, c_callV, c_callS, tkA, lget, lput, lkill, jpush, vsz, jcat, lins, lent, List.length_cons, List.length_nil, List.replicate, List.append_nil, List.cons_append, List.nil_append, reduceIte, Nat.reduceAdd, Nat.reduceSub, Nat.reduceEqDiff, true_and, and_true, Nat.reduceLeDiff, Nat.lt_irrefl, Nat.succ_ne_self, forall_const, ne_eq, not_true_eq_false, not_false_eq_true, false_implies, implies_true, true_implies, true_or, or_true, or_false, false_or, eq_self, Int.reduceEq, Int.reduceLT, Int.reduceLE, Int.reduceNeg, Int.reduceToNat, Int.reduceAdd, Int.reduceSub, Int.reduceMul, Int.reduceNe, and_self, c_iretG, ha]
    refine ⟨⟨_, rfl⟩, (N, P), rfl, rfl, ?_⟩
    refine i_MO_text (Nat.le_add_right 2 3) (fun At h71 h137 h223 h248 h274 h300 h322 h333 => ?_)
    simp only [w_MO_text_0, c_ic, c_lc, c_nul, c_il, c_ll, c_al, c_is, c_ls, c_as, c_inc, c_b2, c_b2n, c_b1, c_d2, c_d2n, c_dsh, c_i2l, c_l2i, c_lcm, c_dup, c_dup2, c_pop, c_j1, c_j2, c_jn, c_sw0, c_sw, c_gI, c_gL, c_gR, c_gS, c_pI, c_pZ, c_pL, c_pR, c_iald, c_ialg, c_iast, c_iasg, c_bald, c_bast, c_lald, c_last, c_aald, c_aals, c_aast, c_alen, c_bnd, c_str, c_bndl, c_bnln, c_sval, c_scod, c_sbal, c_sbln, c_fmt, c_stop, c_iret, c_zret, c_nret, c_aret, c_vret, c_lret, c_cpy, c_callV, c_callS, tkA, lget, lput, lkill, jpush, vsz, jcat, lins, lent, List.length_cons, List.length_nil, List.replicate, List.append_nil, List.cons_append, List.nil_append, reduceIte, Nat.reduceAdd, Nat.reduceSub, Nat.reduceEqDiff, true_and, and_true, Nat.reduceLeDiff, Nat.lt_irrefl, Nat.succ_ne_self, forall_const, ne_eq, not_true_eq_false, not_false_eq_true, false_implies, implies_true, true_implies, true_or, or_true, or_false, false_or, eq_self, Int.reduceEq, Int.reduceLT, Int.reduceLE, Int.reduceNeg, Int.reduceToNat, Int.reduceAdd, Int.reduceSub, Int.reduceMul, Int.reduceNe, and_self]
    refine ok_MO_isIn ?_
    rw [if_neg (by omega)]
    simp only [w_MO_text_52, c_ic, c_lc, c_nul, c_il, c_ll, c_al, c_is, c_ls, c_as, c_inc, c_b2, c_b2n, c_b1, c_d2, c_d2n, c_dsh, c_i2l, c_l2i, c_lcm, c_dup, c_dup2, c_pop, c_j1, c_j2, c_jn, c_sw0, c_sw, c_gI, c_gL, c_gR, c_gS, c_pI, c_pZ, c_pL, c_pR, c_iald, c_ialg, c_iast, c_iasg, c_bald, c_bast, c_lald, c_last, c_aald, c_aals, c_aast, c_alen, c_bnd, c_str, c_bndl, c_bnln, c_sval, c_scod, c_sbal, c_sbln, c_fmt, c_stop, c_iret, c_zret, c_nret, c_aret, c_vret, c_lret, c_cpy, c_callV, c_callS, tkA, lget, lput, lkill, jpush, vsz, jcat, lins, lent, List.length_cons, List.length_nil, List.replicate, List.append_nil, List.cons_append, List.nil_append, reduceIte, Nat.reduceAdd, Nat.reduceSub, Nat.reduceEqDiff, true_and, and_true, Nat.reduceLeDiff, Nat.lt_irrefl, Nat.succ_ne_self, forall_const, ne_eq, not_true_eq_false, not_false_eq_true, false_implies, implies_true, true_implies, true_or, or_true, or_false, false_or, eq_self, Int.reduceEq, Int.reduceLT, Int.reduceLE, Int.reduceNeg, Int.reduceToNat, Int.reduceAdd, Int.reduceSub, Int.reduceMul, Int.reduceNe, and_self]
    exact hJ.sc th_sc
