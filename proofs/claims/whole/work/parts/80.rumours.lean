/-! ===== 80 rumours: what follows from a guess; the class's weighing ===== -/
abbrev jN : Type := Nat × Nat × Int
abbrev fX : Type := (Nat → Int) × (Nat → Int)
abbrev agr (b t n : Int) : Prop := (0 ≤ b ∧ b ≤ 9) ∧ (0 ≤ t ∧ t ≤ 20) ∧ b + t = n
/-- one thing told: biases, truths, whether there is news -/
def fl1 (q : jN) (x : fX × Bool) : Option (fX × Bool) :=
  if x.1.1 q.1 ≠ -1 ∧ x.1.2 q.2.1 = -1 then (if agr (x.1.1 q.1) (q.2.2 - x.1.1 q.1) q.2.2 then some ((x.1.1, up x.1.2 q.2.1 (q.2.2 - x.1.1 q.1)), true) else none)
  else if x.1.1 q.1 = -1 ∧ x.1.2 q.2.1 ≠ -1 then (if agr (q.2.2 - x.1.2 q.2.1) (x.1.2 q.2.1) q.2.2 then some ((up x.1.1 q.1 (q.2.2 - x.1.2 q.2.1), x.1.2), true) else none)
  else if x.1.1 q.1 = -1 ∧ x.1.2 q.2.1 = -1 then some x
  else if agr (x.1.1 q.1) (x.1.2 q.2.1) q.2.2 then some x else none
def flP : List jN → fX × Bool → Option (fX × Bool)
  | [], x => some x
  | q :: l, x => match fl1 q x with
    | none => none
    | some y => flP l y
def flR (l : List jN) : Nat → fX → Option fX
  | 0, x => some x
  | m + 1, x => match flP l (x, false) with
    | none => none
    | some y => if y.2 = true then flR l m y.1 else some y.1
def fol (l : List jN) (k : Nat) (g : Int) : Option fX := flR l 13 (up (fun _ => -1) k g, fun _ => -1)
/-- the things told, within their bounds -/
def NOK (nt : List jN) : Prop := nt.length ≤ 10 ∧ ∀ q ∈ nt, q.1 < 4 ∧ q.2.1 < 8 ∧ 0 ≤ q.2.2 ∧ q.2.2 ≤ 29
def NC (σ : jM) (nt : List jN) : Prop := σ.1 6 0 7 = nt.length ∧ ∀ i, i < nt.length → σ.1 34 0 i = (nt.getD i (0, 0, 0)).1 ∧ σ.1 35 0 i = (nt.getD i (0, 0, 0)).2.1 ∧ σ.1 36 0 i = (nt.getD i (0, 0, 0)).2.2
def SFo : jS := fun k j o => (k = 37 ∨ k = 38) ∧ j = 0
theorem NC.fr {S : jS} {σ τ : jM} {nt : List jN} (hF : Fr S σ τ) (hs : ∀ k o, (k = 6 ∧ o = 7) ∨ (34 ≤ k ∧ k ≤ 36) → ¬ S k 0 o) (h : NC σ nt) : NC τ nt := by
  obtain ⟨h1, h2⟩ := h
  refine ⟨by rw [hF.i (hs 6 7 (by omega))]; exact h1, fun i hi => ?_⟩
  rw [hF.i (hs 34 i (by omega)), hF.i (hs 35 i (by omega)), hF.i (hs 36 i (by omega))]
  exact h2 i hi
theorem nSFo {k j o : Nat} (h : k ≠ 37 ∧ k ≠ 38) : ¬ SFo k j o := fun q => by have := q.1; omega
theorem ok_RU_agrees {σ : jM} {Φ : jPh} {d : Nat} {b t n : Int} (hb : -100 ≤ b ∧ b ≤ 100) (ht : -100 ≤ t ∧ t ≤ 100) (h : Φ (some (.inl (if agr b t n then 1 else 0))) σ) : Ct (d + 1) M_RU_agrees [.inl b, .inl t, .inl n] σ Φ := by
  refine i_RU_agrees (Nat.le_refl 3) ?_
  simp only [w_RU_agrees_32, w_RU_agrees_31, w_RU_agrees_0, c_ic, c_lc, c_nul, c_il, c_ll, c_al, c_is, c_ls, c_as, c_inc, c_b2, c_b2n, c_b1, c_d2, c_d2n, c_dsh, c_i2l, c_l2i, c_lcm, c_dup, c_dup2, c_pop, c_j1, c_j2, c_jn, c_sw0, c_sw, c_gI, c_gL, c_gR, c_gS, c_pI, c_pZ, c_pL, c_pR, c_iald, c_ialg, c_iast, c_iasg, c_bald, c_bast, c_lald, c_last, c_aald, c_aals, c_aast, c_alen, c_bnd, c_str, c_bndl, c_bnln, c_sval, c_scod, c_sbal, c_sbln, c_fmt, c_stop, c_iret, c_zret, c_nret, c_aret, c_vret, c_lret, c_cpy, c_callV, c_callS, tkA, lget, lput, lkill, jpush, vsz, jcat, lins, lent, List.length_cons, List.length_nil, List.replicate, List.append_nil, List.cons_append, List.nil_append, reduceIte, Nat.reduceAdd, Nat.reduceSub, Nat.reduceEqDiff, true_and, and_true, Nat.reduceLeDiff, Nat.lt_irrefl, Nat.succ_ne_self, forall_const, ne_eq, not_true_eq_false, not_false_eq_true, false_implies, implies_true, true_implies, true_or, or_true, or_false, false_or, eq_self, Int.reduceEq, Int.reduceLT, Int.reduceLE, Int.reduceNeg, Int.reduceToNat, Int.reduceAdd, Int.reduceSub, Int.reduceMul, Int.reduceNe, and_self]
  rw [wr_id (by omega) (by omega)]
  refine ⟨fun z => ?_, fun z => ⟨fun z2 => ?_, fun z2 => ⟨fun z3 => ?_, fun z3 => ⟨fun z4 => ?_, fun z4 => ⟨fun z5 => ?_, fun z5 => ?_⟩⟩⟩⟩⟩
  · rwa [if_neg (by omega)] at h
  · rwa [if_neg (by omega)] at h
  · rwa [if_neg (by omega)] at h
  · rwa [if_neg (by omega)] at h
  · rwa [if_neg (by omega)] at h
  · rwa [if_pos (by omega)] at h
/-- values of what follows -/
def FB (x : fX) : Prop := (∀ w, -1 ≤ x.1 w ∧ x.1 w ≤ 9) ∧ ∀ f, -1 ≤ x.2 f ∧ x.2 f ≤ 20
theorem fl1_b {q : jN} {x y : fX × Bool} (hx : FB x.1) (h : fl1 q x = some y) : FB y.1 := by
  obtain ⟨x1, x2⟩ := hx
  unfold fl1 at h
  split at h
  · split at h
    · rename_i ha
      cases h
      refine ⟨x1, fun f => ?_⟩
      simp only [up_at]
      split
      · omega
      · exact x2 f
    · cases h
  · split at h
    · split at h
      · rename_i ha
        cases h
        refine ⟨fun f => ?_, x2⟩
        simp only [up_at]
        split
        · omega
        · exact x1 f
      · cases h
    · split at h
      · cases h; exact ⟨x1, x2⟩
      · split at h
        · cases h; exact ⟨x1, x2⟩
        · cases h
theorem flP_b : ∀ (l : List jN) (x y : fX × Bool), FB x.1 → flP l x = some y → FB y.1
  | [], x, y, hx, h => by cases h; exact hx
  | q :: l, x, y, hx, h => by
    unfold flP at h
    split at h
    · cases h
    · rename_i z hz
      exact flP_b l z y (fl1_b hx hz) h
def MF (τ : jM) (x : fX) : Prop := (∀ w, w < 4 → τ.1 37 0 w = x.1 w) ∧ ∀ f, f < 8 → τ.1 38 0 f = x.2 f
def FoP (σ : jM) (Φ : jPh) (r : Option fX) : Prop := match r with
  | none => ∀ τ, Fr SFo σ τ → Φ (some (.inl 0)) τ
  | some x => ∀ τ, Fr SFo σ τ → MF τ x → Φ (some (.inl 1)) τ
theorem getD_mem {nt : List jN} {i : Nat} (h : i < nt.length) : nt.getD i (0, 0, 0) ∈ nt := by
  rw [List.getD_eq_getElem?_getD, List.getElem?_eq_getElem h]
  exact List.getElem_mem h
theorem drop_cons {nt : List jN} {i : Nat} (h : i < nt.length) : nt.drop i = nt.getD i (0, 0, 0) :: nt.drop (i + 1) := by
  rw [List.drop_eq_getElem_cons h, List.getD_eq_getElem?_getD, List.getElem?_eq_getElem h]
  rfl
theorem ok_RU_follow {σ : jM} {Φ : jPh} {d k : Nat} {g : Int} {nt : List jN} (hN : NOK nt) (hC : NC σ nt) (hk : k < 4) (hg : 0 ≤ g ∧ g ≤ 9) (h : FoP σ Φ (fol nt k g)) : Ct (d + 2) M_RU_follow [rf 6 0, .inl k, .inl g] σ Φ := by
  refine i_RU_follow (Nat.le_add_right 3 5) (fun At h39 h55 => ?_)
  have n10 := hN.1
  have fin : ∀ (τ : jM) (x : fX) (n r x5 x6 x7 : Option jV), Fr SFo σ τ → MF τ x → FoP σ Φ (some x) → w_RU_follow_225 At Φ (d + 1) [some (rf 6 0), some (.inl k), some (.inl g), n, r, x5, x6, x7] [] τ := by
    intro τ x n r x5 x6 x7 hF hM hq
    simp only [w_RU_follow_225, c_ic, c_lc, c_nul, c_il, c_ll, c_al, c_is, c_ls, c_as, c_inc, c_b2, c_b2n, c_b1, c_d2, c_d2n, c_dsh, c_i2l, c_l2i, c_lcm, c_dup, c_dup2, c_pop, c_j1, c_j2, c_jn, c_sw0, c_sw, c_gI, c_gL, c_gR, c_gS, c_pI, c_pZ, c_pL, c_pR, c_iald, c_ialg, c_iast, c_iasg, c_bald, c_bast, c_lald, c_last, c_aald, c_aals, c_aast, c_alen, c_bnd, c_str, c_bndl, c_bnln, c_sval, c_scod, c_sbal, c_sbln, c_fmt, c_stop, c_iret, c_zret, c_nret, c_aret, c_vret, c_lret, c_cpy, c_callV, c_callS, tkA, lget, lput, lkill, jpush, vsz, jcat, lins, lent, List.length_cons, List.length_nil, List.replicate, List.append_nil, List.cons_append, List.nil_append, reduceIte, Nat.reduceAdd, Nat.reduceSub, Nat.reduceEqDiff, true_and, and_true, Nat.reduceLeDiff, Nat.lt_irrefl, Nat.succ_ne_self, forall_const, ne_eq, not_true_eq_false, not_false_eq_true, false_implies, implies_true, true_implies, true_or, or_true, or_false, false_or, eq_self, Int.reduceEq, Int.reduceLT, Int.reduceLE, Int.reduceNeg, Int.reduceToNat, Int.reduceAdd, Int.reduceSub, Int.reduceMul, Int.reduceNe, and_self]
    exact hq τ hF hM
  have key : ∀ (m r : Nat) (τ : jM) (x : fX) (x5 x6 x7 : Option jV), r + m = 13 → Fr SFo σ τ → MF τ x → FB x → FoP σ Φ (flR nt m x) → At 39 [some (rf 6 0), some (.inl k), some (.inl g), some (.inl 1), some (.inl r), x5, x6, x7] [] τ := by
    intro m
    induction m with
    | zero =>
      intro r τ x x5 x6 x7 hr hF hM hB hq
      refine h39 _ _ _ ?_
      simp only [w_RU_follow_39, c_ic, c_lc, c_nul, c_il, c_ll, c_al, c_is, c_ls, c_as, c_inc, c_b2, c_b2n, c_b1, c_d2, c_d2n, c_dsh, c_i2l, c_l2i, c_lcm, c_dup, c_dup2, c_pop, c_j1, c_j2, c_jn, c_sw0, c_sw, c_gI, c_gL, c_gR, c_gS, c_pI, c_pZ, c_pL, c_pR, c_iald, c_ialg, c_iast, c_iasg, c_bald, c_bast, c_lald, c_last, c_aald, c_aals, c_aast, c_alen, c_bnd, c_str, c_bndl, c_bnln, c_sval, c_scod, c_sbal, c_sbln, c_fmt, c_stop, c_iret, c_zret, c_nret, c_aret, c_vret, c_lret, c_cpy, c_callV, c_callS, tkA, lget, lput, lkill, jpush, vsz, jcat, lins, lent, List.length_cons, List.length_nil, List.replicate, List.append_nil, List.cons_append, List.nil_append, reduceIte, Nat.reduceAdd, Nat.reduceSub, Nat.reduceEqDiff, true_and, and_true, Nat.reduceLeDiff, Nat.lt_irrefl, Nat.succ_ne_self, forall_const, ne_eq, not_true_eq_false, not_false_eq_true, false_implies, implies_true, true_implies, true_or, or_true, or_false, false_or, eq_self, Int.reduceEq, Int.reduceLT, Int.reduceLE, Int.reduceNeg, Int.reduceToNat, Int.reduceAdd, Int.reduceSub, Int.reduceMul, Int.reduceNe, and_self]
      exact ⟨fun _ => fin τ x _ _ _ _ _ hF hM hq, fun z => absurd z (by omega)⟩
    | succ m ih =>
      intro r τ x x5 x6 x7 hr hF hM hB hq
      unfold flR at hq
      -- one round
      have rnd : ∀ (m2 i : Nat) (τ : jM) (y : fX × Bool) (x6 x7 : Option jV), i + m2 = nt.length → Fr SFo σ τ → MF τ y.1 → FB y.1 → FoP σ Φ (match flP (nt.drop i) y with | none => none | some y => if y.2 = true then flR nt m y.1 else some y.1) → At 55 [some (rf 6 0), some (.inl k), some (.inl g), some (.inl (if y.2 = true then 1 else 0)), some (.inl r), some (.inl i), x6, x7] [] τ := by
        intro m2
        induction m2 with
        | zero =>
          intro i τ y x6 x7 hi hF hM hB hq
          refine h55 _ _ _ ?_
          have c := (hC.fr hF (fun k o q => nSFo (by omega))).1
          rw [show i = nt.length by omega, List.drop_length] at hq
          simp only [flP] at hq
          simp only [w_RU_follow_55, w_RU_follow_219, c_ic, c_lc, c_nul, c_il, c_ll, c_al, c_is, c_ls, c_as, c_inc, c_b2, c_b2n, c_b1, c_d2, c_d2n, c_dsh, c_i2l, c_l2i, c_lcm, c_dup, c_dup2, c_pop, c_j1, c_j2, c_jn, c_sw0, c_sw, c_gI, c_gL, c_gR, c_gS, c_pI, c_pZ, c_pL, c_pR, c_iald, c_ialg, c_iast, c_iasg, c_bald, c_bast, c_lald, c_last, c_aald, c_aals, c_aast, c_alen, c_bnd, c_str, c_bndl, c_bnln, c_sval, c_scod, c_sbal, c_sbln, c_fmt, c_stop, c_iret, c_zret, c_nret, c_aret, c_vret, c_lret, c_cpy, c_callV, c_callS, tkA, lget, lput, lkill, jpush, vsz, jcat, lins, lent, List.length_cons, List.length_nil, List.replicate, List.append_nil, List.cons_append, List.nil_append, reduceIte, Nat.reduceAdd, Nat.reduceSub, Nat.reduceEqDiff, true_and, and_true, Nat.reduceLeDiff, Nat.lt_irrefl, Nat.succ_ne_self, forall_const, ne_eq, not_true_eq_false, not_false_eq_true, false_implies, implies_true, true_implies, true_or, or_true, or_false, false_or, eq_self, Int.reduceEq, Int.reduceLT, Int.reduceLE, Int.reduceNeg, Int.reduceToNat, Int.reduceAdd, Int.reduceSub, Int.reduceMul, Int.reduceNe, and_self, c, inc_nat (show r ≤ 100000 by omega)]
          refine ⟨fun _ => ?_, fun z => absurd z (by omega)⟩
          by_cases z : y.2 = true
          · rw [if_pos z] at hq ⊢
            exact ih (r + 1) τ y.1 _ _ _ (by omega) hF hM hB hq
          · rw [if_neg z] at hq ⊢
            refine h39 _ _ _ ?_
            simp only [w_RU_follow_39, c_ic, c_lc, c_nul, c_il, c_ll, c_al, c_is, c_ls, c_as, c_inc, c_b2, c_b2n, c_b1, c_d2, c_d2n, c_dsh, c_i2l, c_l2i, c_lcm, c_dup, c_dup2, c_pop, c_j1, c_j2, c_jn, c_sw0, c_sw, c_gI, c_gL, c_gR, c_gS, c_pI, c_pZ, c_pL, c_pR, c_iald, c_ialg, c_iast, c_iasg, c_bald, c_bast, c_lald, c_last, c_aald, c_aals, c_aast, c_alen, c_bnd, c_str, c_bndl, c_bnln, c_sval, c_scod, c_sbal, c_sbln, c_fmt, c_stop, c_iret, c_zret, c_nret, c_aret, c_vret, c_lret, c_cpy, c_callV, c_callS, tkA, lget, lput, lkill, jpush, vsz, jcat, lins, lent, List.length_cons, List.length_nil, List.replicate, List.append_nil, List.cons_append, List.nil_append, reduceIte, Nat.reduceAdd, Nat.reduceSub, Nat.reduceEqDiff, true_and, and_true, Nat.reduceLeDiff, Nat.lt_irrefl, Nat.succ_ne_self, forall_const, ne_eq, not_true_eq_false, not_false_eq_true, false_implies, implies_true, true_implies, true_or, or_true, or_false, false_or, eq_self, Int.reduceEq, Int.reduceLT, Int.reduceLE, Int.reduceNeg, Int.reduceToNat, Int.reduceAdd, Int.reduceSub, Int.reduceMul, Int.reduceNe, and_self]
            exact ⟨fun _ => fin τ y.1 _ _ _ _ _ hF hM hq, fun _ => fin τ y.1 _ _ _ _ _ hF hM hq⟩
        | succ m2 ih2 =>
          intro i τ y x6 x7 hi hF hM hB hq
          refine h55 _ _ _ ?_
          have hi2 : i < nt.length := by omega
          obtain ⟨c1, c2⟩ := hC.fr hF (fun k o q => nSFo (by omega))
          obtain ⟨c34, c35, c36⟩ := c2 i hi2
          rw [drop_cons hi2] at hq
          obtain ⟨q1, q2, q3⟩ := hN.2 _ (getD_mem hi2)
          generalize nt.getD i (0, 0, 0) = q at *
          obtain ⟨w, f, n⟩ := q
          simp only at c34 c35 c36 q1 q2 q3
          have mw := hM.1 w q1
          have mf := hM.2 f q2
          have bw := hB.1 w
          have bf := hB.2 f
          unfold flP fl1 at hq
          simp only at hq
          -- the check, and on
          have chk : ∀ (τ' : jM) (y' : fX × Bool) (b t : Int), -100 ≤ b ∧ b ≤ 100 → -100 ≤ t ∧ t ≤ 100 → Fr SFo σ τ' → (agr b t n → MF τ' y'.1 ∧ FB y'.1 ∧ FoP σ Φ (match flP (nt.drop (i + 1)) y' with | none => none | some y => if y.2 = true then flR nt m y.1 else some y.1)) → (¬ agr b t n → FoP σ Φ none) → w_RU_follow_194 At Φ (d + 1) [some (rf 6 0), some (.inl k), some (.inl g), some (.inl (if y'.2 = true then 1 else 0)), some (.inl r), some (.inl i), some (.inl b), some (.inl t)] [] τ' := by
            intro τ' y' b t hb ht hF' h1 h2
            have c36' := ((hC.fr hF' (fun k o q => nSFo (by omega))).2 i hi2).2.2
            have e36 : τ'.1 36 0 i = n := by rw [hF'.i (nSFo (by decide)), ← hF.i (nSFo (by decide))]; exact c36
            simp only [w_RU_follow_194, c_ic, c_lc, c_nul, c_il, c_ll, c_al, c_is, c_ls, c_as, c_inc, c_b2, c_b2n, c_b1, c_d2, c_d2n, c_dsh, c_i2l, c_l2i, c_lcm, c_dup, c_dup2, c_pop, c_j1, c_j2, c_jn, c_sw0, c_sw, c_gI, c_gL, c_gR, c_gS, c_pI, c_pZ, c_pL, c_pR, c_iald, c_ialg, c_iast, c_iasg, c_bald, c_bast, c_lald, c_last, c_aald, c_aals, c_aast, c_alen, c_bnd, c_str, c_bndl, c_bnln, c_sval, c_scod, c_sbal, c_sbln, c_fmt, c_stop, c_iret, c_zret, c_nret, c_aret, c_vret, c_lret, c_cpy, c_callV, c_callS, tkA, lget, lput, lkill, jpush, vsz, jcat, lins, lent, List.length_cons, List.length_nil, List.replicate, List.append_nil, List.cons_append, List.nil_append, reduceIte, Nat.reduceAdd, Nat.reduceSub, Nat.reduceEqDiff, true_and, and_true, Nat.reduceLeDiff, Nat.lt_irrefl, Nat.succ_ne_self, forall_const, ne_eq, not_true_eq_false, not_false_eq_true, false_implies, implies_true, true_implies, true_or, or_true, or_false, false_or, eq_self, Int.reduceEq, Int.reduceLT, Int.reduceLE, Int.reduceNeg, Int.reduceToNat, Int.reduceAdd, Int.reduceSub, Int.reduceMul, Int.reduceNe, and_self, Int.toNat_natCast, e36]
            refine ⟨⟨by omega, by omega⟩, ?_⟩
            refine ok_RU_agrees hb ht ?_
            by_cases z : agr b t n
            · obtain ⟨p1, p2, p3⟩ := h1 z
              rw [if_pos z]
              simp only [w_RU_follow_213, c_ic, c_lc, c_nul, c_il, c_ll, c_al, c_is, c_ls, c_as, c_inc, c_b2, c_b2n, c_b1, c_d2, c_d2n, c_dsh, c_i2l, c_l2i, c_lcm, c_dup, c_dup2, c_pop, c_j1, c_j2, c_jn, c_sw0, c_sw, c_gI, c_gL, c_gR, c_gS, c_pI, c_pZ, c_pL, c_pR, c_iald, c_ialg, c_iast, c_iasg, c_bald, c_bast, c_lald, c_last, c_aald, c_aals, c_aast, c_alen, c_bnd, c_str, c_bndl, c_bnln, c_sval, c_scod, c_sbal, c_sbln, c_fmt, c_stop, c_iret, c_zret, c_nret, c_aret, c_vret, c_lret, c_cpy, c_callV, c_callS, tkA, lget, lput, lkill, jpush, vsz, jcat, lins, lent, List.length_cons, List.length_nil, List.replicate, List.append_nil, List.cons_append, List.nil_append, reduceIte, Nat.reduceAdd, Nat.reduceSub, Nat.reduceEqDiff, true_and, and_true, Nat.reduceLeDiff, Nat.lt_irrefl, Nat.succ_ne_self, forall_const, ne_eq, not_true_eq_false, not_false_eq_true, false_implies, implies_true, true_implies, true_or, or_true, or_false, false_or, eq_self, Int.reduceEq, Int.reduceLT, Int.reduceLE, Int.reduceNeg, Int.reduceToNat, Int.reduceAdd, Int.reduceSub, Int.reduceMul, Int.reduceNe, and_self, inc_nat (show i ≤ 100000 by omega)]
              exact ih2 (i + 1) τ' y' _ _ (by omega) hF' p1 p2 p3
            · rw [if_neg z]
              simp only [c_ic, c_lc, c_nul, c_il, c_ll, c_al, c_is, c_ls, c_as, c_inc, c_b2, c_b2n, c_b1, c_d2, c_d2n, c_dsh, c_i2l, c_l2i, c_lcm, c_dup, c_dup2, c_pop, c_j1, c_j2, c_jn, c_sw0, c_sw, c_gI, c_gL, c_gR, c_gS, c_pI, c_pZ, c_pL, c_pR, c_iald, c_ialg, c_iast, c_iasg, c_bald, c_bast, c_lald, c_last, c_aald, c_aals, c_aast, c_alen, c_bnd, c_str, c_bndl, c_bnln, c_sval, c_scod, c_sbal, c_sbln, c_fmt, c_stop, c_iret, c_zret, c_nret, c_aret, c_vret, c_lret, c_cpy, c_callV, c_callS, tkA, lget, lput, lkill, jpush, vsz, jcat, lins, lent, List.length_cons, List.length_nil, List.replicate, List.append_nil, List.cons_append, List.nil_append, reduceIte, Nat.reduceAdd, Nat.reduceSub, Nat.reduceEqDiff, true_and, and_true, Nat.reduceLeDiff, Nat.lt_irrefl, Nat.succ_ne_self, forall_const, ne_eq, not_true_eq_false, not_false_eq_true, false_implies, implies_true, true_implies, true_or, or_true, or_false, false_or, eq_self, Int.reduceEq, Int.reduceLT, Int.reduceLE, Int.reduceNeg, Int.reduceToNat, Int.reduceAdd, Int.reduceSub, Int.reduceMul, Int.reduceNe, and_self]
              exact h2 z τ' hF'
          have t182 : ¬ (y.1.1 w ≠ -1 ∧ y.1.2 f = -1) → ¬ (y.1.1 w = -1 ∧ y.1.2 f ≠ -1) → w_RU_follow_182 At Φ (d + 1) [some (rf 6 0), some (.inl k), some (.inl g), some (.inl (if y.2 = true then 1 else 0)), some (.inl r), some (.inl i), some (.inl (y.1.1 w)), some (.inl (y.1.2 f))] [] τ := by
            intro n1 n2
            rw [if_neg n1, if_neg n2] at hq
            simp only [w_RU_follow_182, w_RU_follow_213, c_ic, c_lc, c_nul, c_il, c_ll, c_al, c_is, c_ls, c_as, c_inc, c_b2, c_b2n, c_b1, c_d2, c_d2n, c_dsh, c_i2l, c_l2i, c_lcm, c_dup, c_dup2, c_pop, c_j1, c_j2, c_jn, c_sw0, c_sw, c_gI, c_gL, c_gR, c_gS, c_pI, c_pZ, c_pL, c_pR, c_iald, c_ialg, c_iast, c_iasg, c_bald, c_bast, c_lald, c_last, c_aald, c_aals, c_aast, c_alen, c_bnd, c_str, c_bndl, c_bnln, c_sval, c_scod, c_sbal, c_sbln, c_fmt, c_stop, c_iret, c_zret, c_nret, c_aret, c_vret, c_lret, c_cpy, c_callV, c_callS, tkA, lget, lput, lkill, jpush, vsz, jcat, lins, lent, List.length_cons, List.length_nil, List.replicate, List.append_nil, List.cons_append, List.nil_append, reduceIte, Nat.reduceAdd, Nat.reduceSub, Nat.reduceEqDiff, true_and, and_true, Nat.reduceLeDiff, Nat.lt_irrefl, Nat.succ_ne_self, forall_const, ne_eq, not_true_eq_false, not_false_eq_true, false_implies, implies_true, true_implies, true_or, or_true, or_false, false_or, eq_self, Int.reduceEq, Int.reduceLT, Int.reduceLE, Int.reduceNeg, Int.reduceToNat, Int.reduceAdd, Int.reduceSub, Int.reduceMul, Int.reduceNe, and_self, inc_nat (show i ≤ 100000 by omega)]
            refine ⟨fun z => ?_, fun z => ⟨fun z2 => ?_, fun z2 => ?_⟩⟩
            · rw [if_neg (fun q => z q.1)] at hq
              refine chk τ y _ _ (by omega) (by omega) hF (fun ha => ?_) (fun ha => ?_)
              · rw [if_pos ha] at hq
                exact ⟨hM, hB, hq⟩
              · rw [if_neg ha] at hq
                exact hq
            · rw [if_pos ⟨Classical.not_not.mp z, z2⟩] at hq
              exact ih2 (i + 1) τ y _ _ (by omega) hF hM hB hq
            · exact absurd ⟨Classical.not_not.mp z, z2⟩ n2
          have t142 : ¬ (y.1.1 w ≠ -1 ∧ y.1.2 f = -1) → w_RU_follow_142 At Φ (d + 1) [some (rf 6 0), some (.inl k), some (.inl g), some (.inl (if y.2 = true then 1 else 0)), some (.inl r), some (.inl i), some (.inl (y.1.1 w)), some (.inl (y.1.2 f))] [] τ := by
            intro n1
            simp only [w_RU_follow_142, c_ic, c_lc, c_nul, c_il, c_ll, c_al, c_is, c_ls, c_as, c_inc, c_b2, c_b2n, c_b1, c_d2, c_d2n, c_dsh, c_i2l, c_l2i, c_lcm, c_dup, c_dup2, c_pop, c_j1, c_j2, c_jn, c_sw0, c_sw, c_gI, c_gL, c_gR, c_gS, c_pI, c_pZ, c_pL, c_pR, c_iald, c_ialg, c_iast, c_iasg, c_bald, c_bast, c_lald, c_last, c_aald, c_aals, c_aast, c_alen, c_bnd, c_str, c_bndl, c_bnln, c_sval, c_scod, c_sbal, c_sbln, c_fmt, c_stop, c_iret, c_zret, c_nret, c_aret, c_vret, c_lret, c_cpy, c_callV, c_callS, tkA, lget, lput, lkill, jpush, vsz, jcat, lins, lent, List.length_cons, List.length_nil, List.replicate, List.append_nil, List.cons_append, List.nil_append, reduceIte, Nat.reduceAdd, Nat.reduceSub, Nat.reduceEqDiff, true_and, and_true, Nat.reduceLeDiff, Nat.lt_irrefl, Nat.succ_ne_self, forall_const, ne_eq, not_true_eq_false, not_false_eq_true, false_implies, implies_true, true_implies, true_or, or_true, or_false, false_or, eq_self, Int.reduceEq, Int.reduceLT, Int.reduceLE, Int.reduceNeg, Int.reduceToNat, Int.reduceAdd, Int.reduceSub, Int.reduceMul, Int.reduceNe, and_self, Int.toNat_natCast, c34, c36]
            refine ⟨fun z => t182 n1 (fun q => z q.1), fun z => ⟨fun z2 => t182 n1 (fun q => q.2 z2), fun z2 => ⟨⟨by omega, by omega⟩, ⟨by omega, by omega⟩, ⟨by omega, by omega⟩, ?_⟩⟩⟩
            have z := Classical.not_not.mp z
            rw [if_neg n1, if_pos ⟨z, z2⟩] at hq
            rw [wr_id (x := n - y.1.2 f) (by omega) (by omega)]
            have hF2 : Fr SFo σ (sI τ 37 0 w (n - y.1.2 f)) := hF.sI ⟨Or.inl rfl, rfl⟩
            have e := chk (sI τ 37 0 w (n - y.1.2 f)) ((up y.1.1 w (n - y.1.2 f), y.1.2), true) (n - y.1.2 f) (y.1.2 f) (by omega) (by omega) hF2 (fun ha => by
              rw [if_pos ha] at hq
              refine ⟨⟨fun w' hw' => ?_, fun f' hf' => hM.2 f' hf'⟩, ⟨fun w' => ?_, hB.2⟩, hq⟩
              · simp only [g_sI, true_and, up_at]
                split
                · rfl
                · exact hM.1 w' hw'
              · simp only [up_at]
                split
                · omega
                · exact hB.1 w') (fun ha => by rw [if_neg ha] at hq; exact hq)
            simp only [w_RU_follow_182, c_ic, c_lc, c_nul, c_il, c_ll, c_al, c_is, c_ls, c_as, c_inc, c_b2, c_b2n, c_b1, c_d2, c_d2n, c_dsh, c_i2l, c_l2i, c_lcm, c_dup, c_dup2, c_pop, c_j1, c_j2, c_jn, c_sw0, c_sw, c_gI, c_gL, c_gR, c_gS, c_pI, c_pZ, c_pL, c_pR, c_iald, c_ialg, c_iast, c_iasg, c_bald, c_bast, c_lald, c_last, c_aald, c_aals, c_aast, c_alen, c_bnd, c_str, c_bndl, c_bnln, c_sval, c_scod, c_sbal, c_sbln, c_fmt, c_stop, c_iret, c_zret, c_nret, c_aret, c_vret, c_lret, c_cpy, c_callV, c_callS, tkA, lget, lput, lkill, jpush, vsz, jcat, lins, lent, List.length_cons, List.length_nil, List.replicate, List.append_nil, List.cons_append, List.nil_append, reduceIte, Nat.reduceAdd, Nat.reduceSub, Nat.reduceEqDiff, true_and, and_true, Nat.reduceLeDiff, Nat.lt_irrefl, Nat.succ_ne_self, forall_const, ne_eq, not_true_eq_false, not_false_eq_true, false_implies, implies_true, true_implies, true_or, or_true, or_false, false_or, eq_self, Int.reduceEq, Int.reduceLT, Int.reduceLE, Int.reduceNeg, Int.reduceToNat, Int.reduceAdd, Int.reduceSub, Int.reduceMul, Int.reduceNe, and_self]
            exact ⟨fun _ => e, fun _ => ⟨fun q => absurd q z2, fun _ => e⟩⟩
          simp only [w_RU_follow_55, c_ic, c_lc, c_nul, c_il, c_ll, c_al, c_is, c_ls, c_as, c_inc, c_b2, c_b2n, c_b1, c_d2, c_d2n, c_dsh, c_i2l, c_l2i, c_lcm, c_dup, c_dup2, c_pop, c_j1, c_j2, c_jn, c_sw0, c_sw, c_gI, c_gL, c_gR, c_gS, c_pI, c_pZ, c_pL, c_pR, c_iald, c_ialg, c_iast, c_iasg, c_bald, c_bast, c_lald, c_last, c_aald, c_aals, c_aast, c_alen, c_bnd, c_str, c_bndl, c_bnln, c_sval, c_scod, c_sbal, c_sbln, c_fmt, c_stop, c_iret, c_zret, c_nret, c_aret, c_vret, c_lret, c_cpy, c_callV, c_callS, tkA, lget, lput, lkill, jpush, vsz, jcat, lins, lent, List.length_cons, List.length_nil, List.replicate, List.append_nil, List.cons_append, List.nil_append, reduceIte, Nat.reduceAdd, Nat.reduceSub, Nat.reduceEqDiff, true_and, and_true, Nat.reduceLeDiff, Nat.lt_irrefl, Nat.succ_ne_self, forall_const, ne_eq, not_true_eq_false, not_false_eq_true, false_implies, implies_true, true_implies, true_or, or_true, or_false, false_or, eq_self, Int.reduceEq, Int.reduceLT, Int.reduceLE, Int.reduceNeg, Int.reduceToNat, Int.reduceAdd, Int.reduceSub, Int.reduceMul, Int.reduceNe, and_self, c1, Int.toNat_natCast, c34, c35, c36, mw, mf]
          refine ⟨fun z => absurd z (by omega), fun _ => ⟨fun z => absurd z (by omega), fun _ => ⟨⟨by omega, by omega⟩, ⟨by omega, by omega⟩, ⟨by omega, by omega⟩, ⟨by omega, by omega⟩, fun z => t142 (fun q => q.1 z), fun z => ⟨fun z2 => t142 (fun q => z2 q.2), fun z2 => ⟨⟨by omega, by omega⟩, ⟨by omega, by omega⟩, ⟨by omega, by omega⟩, ?_⟩⟩⟩⟩⟩
          have z2 := Classical.not_not.mp z2
          rw [if_pos ⟨z, z2⟩] at hq
          rw [wr_id (x := n - y.1.1 w) (by omega) (by omega)]
          have hF2 : Fr SFo σ (sI τ 38 0 f (n - y.1.1 w)) := hF.sI ⟨Or.inr rfl, rfl⟩
          have e := chk (sI τ 38 0 f (n - y.1.1 w)) ((y.1.1, up y.1.2 f (n - y.1.1 w)), true) (y.1.1 w) (n - y.1.1 w) (by omega) (by omega) hF2 (fun ha => by
            rw [if_pos ha] at hq
            refine ⟨⟨fun w' hw' => hM.1 w' hw', fun f' hf' => ?_⟩, ⟨hB.1, fun f' => ?_⟩, hq⟩
            · simp only [g_sI, true_and, up_at]
              split
              · rfl
              · exact hM.2 f' hf'
            · simp only [up_at]
              split
              · omega
              · exact hB.2 f') (fun ha => by rw [if_neg ha] at hq; exact hq)
          simp only [w_RU_follow_182, c_ic, c_lc, c_nul, c_il, c_ll, c_al, c_is, c_ls, c_as, c_inc, c_b2, c_b2n, c_b1, c_d2, c_d2n, c_dsh, c_i2l, c_l2i, c_lcm, c_dup, c_dup2, c_pop, c_j1, c_j2, c_jn, c_sw0, c_sw, c_gI, c_gL, c_gR, c_gS, c_pI, c_pZ, c_pL, c_pR, c_iald, c_ialg, c_iast, c_iasg, c_bald, c_bast, c_lald, c_last, c_aald, c_aals, c_aast, c_alen, c_bnd, c_str, c_bndl, c_bnln, c_sval, c_scod, c_sbal, c_sbln, c_fmt, c_stop, c_iret, c_zret, c_nret, c_aret, c_vret, c_lret, c_cpy, c_callV, c_callS, tkA, lget, lput, lkill, jpush, vsz, jcat, lins, lent, List.length_cons, List.length_nil, List.replicate, List.append_nil, List.cons_append, List.nil_append, reduceIte, Nat.reduceAdd, Nat.reduceSub, Nat.reduceEqDiff, true_and, and_true, Nat.reduceLeDiff, Nat.lt_irrefl, Nat.succ_ne_self, forall_const, ne_eq, not_true_eq_false, not_false_eq_true, false_implies, implies_true, true_implies, true_or, or_true, or_false, false_or, eq_self, Int.reduceEq, Int.reduceLT, Int.reduceLE, Int.reduceNeg, Int.reduceToNat, Int.reduceAdd, Int.reduceSub, Int.reduceMul, Int.reduceNe, and_self]
          exact ⟨fun _ => e, fun q => absurd (Classical.not_not.mp q) z⟩
      refine h39 _ _ _ ?_
      simp only [w_RU_follow_39, c_ic, c_lc, c_nul, c_il, c_ll, c_al, c_is, c_ls, c_as, c_inc, c_b2, c_b2n, c_b1, c_d2, c_d2n, c_dsh, c_i2l, c_l2i, c_lcm, c_dup, c_dup2, c_pop, c_j1, c_j2, c_jn, c_sw0, c_sw, c_gI, c_gL, c_gR, c_gS, c_pI, c_pZ, c_pL, c_pR, c_iald, c_ialg, c_iast, c_iasg, c_bald, c_bast, c_lald, c_last, c_aald, c_aals, c_aast, c_alen, c_bnd, c_str, c_bndl, c_bnln, c_sval, c_scod, c_sbal, c_sbln, c_fmt, c_stop, c_iret, c_zret, c_nret, c_aret, c_vret, c_lret, c_cpy, c_callV, c_callS, tkA, lget, lput, lkill, jpush, vsz, jcat, lins, lent, List.length_cons, List.length_nil, List.replicate, List.append_nil, List.cons_append, List.nil_append, reduceIte, Nat.reduceAdd, Nat.reduceSub, Nat.reduceEqDiff, true_and, and_true, Nat.reduceLeDiff, Nat.lt_irrefl, Nat.succ_ne_self, forall_const, ne_eq, not_true_eq_false, not_false_eq_true, false_implies, implies_true, true_implies, true_or, or_true, or_false, false_or, eq_self, Int.reduceEq, Int.reduceLT, Int.reduceLE, Int.reduceNeg, Int.reduceToNat, Int.reduceAdd, Int.reduceSub, Int.reduceMul, Int.reduceNe, and_self]
      refine ⟨fun z => absurd z (by omega), fun _ => ?_⟩
      exact rnd nt.length 0 τ (x, false) x6 x7 (Nat.zero_add _) hF hM hB hq
  simp only [w_RU_follow_0, c_ic, c_lc, c_nul, c_il, c_ll, c_al, c_is, c_ls, c_as, c_inc, c_b2, c_b2n, c_b1, c_d2, c_d2n, c_dsh, c_i2l, c_l2i, c_lcm, c_dup, c_dup2, c_pop, c_j1, c_j2, c_jn, c_sw0, c_sw, c_gI, c_gL, c_gR, c_gS, c_pI, c_pZ, c_pL, c_pR, c_iald, c_ialg, c_iast, c_iasg, c_bald, c_bast, c_lald, c_last, c_aald, c_aals, c_aast, c_alen, c_bnd, c_str, c_bndl, c_bnln, c_sval, c_scod, c_sbal, c_sbln, c_fmt, c_stop, c_iret, c_zret, c_nret, c_aret, c_vret, c_lret, c_cpy, c_callV, c_callS, tkA, lget, lput, lkill, jpush, vsz, jcat, lins, lent, List.length_cons, List.length_nil, List.replicate, List.append_nil, List.cons_append, List.nil_append, reduceIte, Nat.reduceAdd, Nat.reduceSub, Nat.reduceEqDiff, true_and, and_true, Nat.reduceLeDiff, Nat.lt_irrefl, Nat.succ_ne_self, forall_const, ne_eq, not_true_eq_false, not_false_eq_true, false_implies, implies_true, true_implies, true_or, or_true, or_false, false_or, eq_self, Int.reduceEq, Int.reduceLT, Int.reduceLE, Int.reduceNeg, Int.reduceToNat, Int.reduceAdd, Int.reduceSub, Int.reduceMul, Int.reduceNe, and_self]
  refine ok_AR_fill (by decide) (show 4 < 1000 by decide) ?_
  simp only [c_ic, c_lc, c_nul, c_il, c_ll, c_al, c_is, c_ls, c_as, c_inc, c_b2, c_b2n, c_b1, c_d2, c_d2n, c_dsh, c_i2l, c_l2i, c_lcm, c_dup, c_dup2, c_pop, c_j1, c_j2, c_jn, c_sw0, c_sw, c_gI, c_gL, c_gR, c_gS, c_pI, c_pZ, c_pL, c_pR, c_iald, c_ialg, c_iast, c_iasg, c_bald, c_bast, c_lald, c_last, c_aald, c_aals, c_aast, c_alen, c_bnd, c_str, c_bndl, c_bnln, c_sval, c_scod, c_sbal, c_sbln, c_fmt, c_stop, c_iret, c_zret, c_nret, c_aret, c_vret, c_lret, c_cpy, c_callV, c_callS, tkA, lget, lput, lkill, jpush, vsz, jcat, lins, lent, List.length_cons, List.length_nil, List.replicate, List.append_nil, List.cons_append, List.nil_append, reduceIte, Nat.reduceAdd, Nat.reduceSub, Nat.reduceEqDiff, true_and, and_true, Nat.reduceLeDiff, Nat.lt_irrefl, Nat.succ_ne_self, forall_const, ne_eq, not_true_eq_false, not_false_eq_true, false_implies, implies_true, true_implies, true_or, or_true, or_false, false_or, eq_self, Int.reduceEq, Int.reduceLT, Int.reduceLE, Int.reduceNeg, Int.reduceToNat, Int.reduceAdd, Int.reduceSub, Int.reduceMul, Int.reduceNe, and_self]
  refine ok_AR_fill (by decide) (show 8 < 1000 by decide) ?_
  simp only [w_RU_follow_27, c_ic, c_lc, c_nul, c_il, c_ll, c_al, c_is, c_ls, c_as, c_inc, c_b2, c_b2n, c_b1, c_d2, c_d2n, c_dsh, c_i2l, c_l2i, c_lcm, c_dup, c_dup2, c_pop, c_j1, c_j2, c_jn, c_sw0, c_sw, c_gI, c_gL, c_gR, c_gS, c_pI, c_pZ, c_pL, c_pR, c_iald, c_ialg, c_iast, c_iasg, c_bald, c_bast, c_lald, c_last, c_aald, c_aals, c_aast, c_alen, c_bnd, c_str, c_bndl, c_bnln, c_sval, c_scod, c_sbal, c_sbln, c_fmt, c_stop, c_iret, c_zret, c_nret, c_aret, c_vret, c_lret, c_cpy, c_callV, c_callS, tkA, lget, lput, lkill, jpush, vsz, jcat, lins, lent, List.length_cons, List.length_nil, List.replicate, List.append_nil, List.cons_append, List.nil_append, reduceIte, Nat.reduceAdd, Nat.reduceSub, Nat.reduceEqDiff, true_and, and_true, Nat.reduceLeDiff, Nat.lt_irrefl, Nat.succ_ne_self, forall_const, ne_eq, not_true_eq_false, not_false_eq_true, false_implies, implies_true, true_implies, true_or, or_true, or_false, false_or, eq_self, Int.reduceEq, Int.reduceLT, Int.reduceLE, Int.reduceNeg, Int.reduceToNat, Int.reduceAdd, Int.reduceSub, Int.reduceMul, Int.reduceNe, and_self, Int.toNat_natCast]
  refine ⟨fun z => absurd z (by omega), fun _ => ⟨fun _ => ⟨⟨by omega, by omega⟩, ?_⟩, fun z => absurd z (by omega)⟩⟩
  unfold fol at h
  refine key 13 0 _ _ _ _ _ rfl (((Fr.rf.sA (fun _ => ⟨Or.inl rfl, rfl⟩)).sA (fun _ => ⟨Or.inr rfl, rfl⟩)).sI ⟨Or.inl rfl, rfl⟩) ⟨fun w hw => ?_, fun f hf => ?_⟩ ⟨fun w => ?_, fun f => show (-1 : Int) ≤ -1 ∧ (-1 : Int) ≤ 20 by decide⟩ h
  · simp only [g_sI, g_sA, true_and, and_self, Nat.reduceEqDiff, false_and, if_false, if_true, up_at, jln]
    by_cases z : w = k
    · rw [if_pos z, if_pos z]
    · rw [if_neg z, if_neg z, if_pos hw]
  · simp only [g_sI, g_sA, and_self, Nat.reduceEqDiff, false_and, if_false, if_true, jln]
    rw [if_pos hf]
  · simp only [up_at]
    split
    · omega
    · decide
/-- the biases (bits) of a kingdom from which nothing follows that can't be -/
def fitV (nt : List jN) (k g : Nat) : Int := if (fol nt k g).isSome = true then jshl 1 g else 0
def fitS (nt : List jN) (k : Nat) : Int := orF (fitV nt k) 10
def sndS (nt : List jN) : Nat → Bool
  | 0 => true
  | k + 1 => sndS nt k && decide (fitS nt k ≠ 0)
/-- the class's rumours -/
def UC (σ : jM) (K : Nat) (nt : List jN) : Prop := NOK nt ∧ NC σ nt ∧ σ.1 6 0 6 = K ∧ (∀ k, k < K → σ.1 39 0 k = fitS nt k) ∧ σ.1 6 0 8 = if sndS nt K = true then 1 else 0
def SWe : jS := fun k j o => (k = 37 ∨ k = 38 ∨ k = 39) ∧ j = 0 ∨ (k = 6 ∧ j = 0 ∧ o = 8)
theorem ok_RU_weigh {σ : jM} {Φ : jPh} {d K : Nat} {nt : List jN} (hN : NOK nt) (hC : NC σ nt) (hK : K ≤ 4) (h6 : σ.1 6 0 6 = K) (h : ∀ τ, Fr SWe σ τ → UC τ K nt → Φ none τ) : Ct (d + 3) M_RU_weigh [rf 6 0] σ Φ := by
  refine i_RU_weigh (Nat.le_add_right 1 2) (fun At h7 h24 => ?_)
  have fc : ∀ {τ : jM}, Fr SWe σ τ → NC τ nt ∧ τ.1 6 0 6 = K := fun hF => ⟨hC.fr hF (fun k o q w => by unfold SWe at w; omega), by rw [hF.i (by unfold SWe; omega)]; exact h6⟩
  have key : ∀ (m k : Nat) (τ : jM) (x : Option jV), k + m = K → Fr SWe σ τ → (∀ i, i < k → τ.1 39 0 i = fitS nt i) → (τ.1 6 0 8 = if sndS nt k = true then 1 else 0) → At 7 [some (rf 6 0), some (.inl k), x] [] τ := by
    intro m
    induction m with
    | zero =>
      intro k τ x hk hF hf hs
      refine h7 _ _ _ ?_
      obtain ⟨c1, c2⟩ := fc hF
      simp only [w_RU_weigh_7, w_RU_weigh_92, c_ic, c_lc, c_nul, c_il, c_ll, c_al, c_is, c_ls, c_as, c_inc, c_b2, c_b2n, c_b1, c_d2, c_d2n, c_dsh, c_i2l, c_l2i, c_lcm, c_dup, c_dup2, c_pop, c_j1, c_j2, c_jn, c_sw0, c_sw, c_gI, c_gL, c_gR, c_gS, c_pI, c_pZ, c_pL, c_pR, c_iald, c_ialg, c_iast, c_iasg, c_bald, c_bast, c_lald, c_last, c_aald, c_aals, c_aast, c_alen, c_bnd, c_str, c_bndl, c_bnln, c_sval, c_scod, c_sbal, c_sbln, c_fmt, c_stop, c_iret, c_zret, c_nret, c_aret, c_vret, c_lret, c_cpy, c_callV, c_callS, tkA, lget, lput, lkill, jpush, vsz, jcat, lins, lent, List.length_cons, List.length_nil, List.replicate, List.append_nil, List.cons_append, List.nil_append, reduceIte, Nat.reduceAdd, Nat.reduceSub, Nat.reduceEqDiff, true_and, and_true, Nat.reduceLeDiff, Nat.lt_irrefl, Nat.succ_ne_self, forall_const, ne_eq, not_true_eq_false, not_false_eq_true, false_implies, implies_true, true_implies, true_or, or_true, or_false, false_or, eq_self, Int.reduceEq, Int.reduceLT, Int.reduceLE, Int.reduceNeg, Int.reduceToNat, Int.reduceAdd, Int.reduceSub, Int.reduceMul, Int.reduceNe, and_self, c2]
      refine ⟨fun _ => ?_, fun z => absurd z (by omega)⟩
      rw [show k = K by omega] at hf hs
      exact h τ hF ⟨hN, c1, c2, hf, hs⟩
    | succ m ih =>
      intro k τ x hk hF hf hs
      refine h7 _ _ _ ?_
      obtain ⟨c1, c2⟩ := fc hF
      have inn : ∀ (m2 g : Nat) (τ : jM), g + m2 = 10 → Fr SWe σ τ → (∀ i, i < k → τ.1 39 0 i = fitS nt i) → (τ.1 6 0 8 = if sndS nt k = true then 1 else 0) → τ.1 39 0 k = orF (fitV nt k) g → At 24 [some (rf 6 0), some (.inl k), some (.inl g)] [] τ := by
        intro m2
        induction m2 with
        | zero =>
          intro g τ hg hF hf hs hv
          refine h24 _ _ _ ?_
          rw [show g = 10 by omega] at hv
          have hv : τ.1 39 0 k = fitS nt k := hv
          have nxt : ∀ (y : Int), (y = if sndS nt (k + 1) = true then 1 else 0) → At 7 [some (rf 6 0), some (.inl (k + 1 : Nat)), some (.inl g)] [] (sI τ 6 0 8 y) := by
            intro y hy
            refine ih (k + 1) _ _ (by omega) (hF.sI (Or.inr ⟨rfl, rfl, rfl⟩)) (fun i hi => ?_) (by simp only [g_sI, and_self, if_true]; exact hy)
            by_cases z : i = k
            · rw [z]; exact hv
            · exact hf i (by omega)
          have es : sndS nt (k + 1) = (sndS nt k && decide (fitS nt k ≠ 0)) := rfl
          simp only [w_RU_weigh_24, w_RU_weigh_61, w_RU_weigh_82, w_RU_weigh_83, c_ic, c_lc, c_nul, c_il, c_ll, c_al, c_is, c_ls, c_as, c_inc, c_b2, c_b2n, c_b1, c_d2, c_d2n, c_dsh, c_i2l, c_l2i, c_lcm, c_dup, c_dup2, c_pop, c_j1, c_j2, c_jn, c_sw0, c_sw, c_gI, c_gL, c_gR, c_gS, c_pI, c_pZ, c_pL, c_pR, c_iald, c_ialg, c_iast, c_iasg, c_bald, c_bast, c_lald, c_last, c_aald, c_aals, c_aast, c_alen, c_bnd, c_str, c_bndl, c_bnln, c_sval, c_scod, c_sbal, c_sbln, c_fmt, c_stop, c_iret, c_zret, c_nret, c_aret, c_vret, c_lret, c_cpy, c_callV, c_callS, tkA, lget, lput, lkill, jpush, vsz, jcat, lins, lent, List.length_cons, List.length_nil, List.replicate, List.append_nil, List.cons_append, List.nil_append, reduceIte, Nat.reduceAdd, Nat.reduceSub, Nat.reduceEqDiff, true_and, and_true, Nat.reduceLeDiff, Nat.lt_irrefl, Nat.succ_ne_self, forall_const, ne_eq, not_true_eq_false, not_false_eq_true, false_implies, implies_true, true_implies, true_or, or_true, or_false, false_or, eq_self, Int.reduceEq, Int.reduceLT, Int.reduceLE, Int.reduceNeg, Int.reduceToNat, Int.reduceAdd, Int.reduceSub, Int.reduceMul, Int.reduceNe, and_self, hs, Int.toNat_natCast, hv, inc_nat (show k ≤ 100000 by omega)]
          refine ⟨fun _ => ⟨fun z => ?_, fun z => ⟨⟨by omega, by omega⟩, fun z2 => ?_, fun z2 => ?_⟩⟩, fun z => absurd z (by omega)⟩
          · refine nxt 0 ?_
            rw [es]
            cases hb : sndS nt k with
            | false => rfl
            | true => rw [hb] at z; simp at z
          · refine nxt 0 ?_
            rw [es, z2]
            simp
          · refine nxt 1 ?_
            rw [es]
            cases hb : sndS nt k with
            | false => rw [hb] at z; simp at z
            | true => simp [z2]
        | succ m2 ih2 =>
          intro g τ hg hF hf hs hv
          refine h24 _ _ _ ?_
          obtain ⟨c1, c2⟩ := fc hF
          have go : ∀ (τ' : jM) (y : Int), Fr SFo τ τ' → y = fitV nt k g → At 24 [some (rf 6 0), some (.inl k), some (.inl (g + 1 : Nat))] [] (sI τ' 39 0 k (jor (orF (fitV nt k) g) y)) := by
            intro τ' y hF' hy
            have n39 : ∀ o, τ'.1 39 0 o = τ.1 39 0 o := fun o => hF'.i (nSFo (by decide))
            refine ih2 (g + 1) _ (by omega) ((hF.tr (hF'.wk (fun k j o q => Or.inl ⟨by have := q.1; omega, q.2⟩))).sI (Or.inl ⟨by decide, rfl⟩)) (fun i hi => ?_) ?_ ?_
            · simp only [g_sI, true_and]
              rw [if_neg (by omega), n39]
              exact hf i hi
            · simp only [g_sI, Nat.reduceEqDiff, false_and, if_false]
              rw [hF'.i (nSFo (by decide))]
              exact hs
            · simp only [g_sI, and_self, if_true, hy]
              rfl
          simp only [w_RU_weigh_24, c_ic, c_lc, c_nul, c_il, c_ll, c_al, c_is, c_ls, c_as, c_inc, c_b2, c_b2n, c_b1, c_d2, c_d2n, c_dsh, c_i2l, c_l2i, c_lcm, c_dup, c_dup2, c_pop, c_j1, c_j2, c_jn, c_sw0, c_sw, c_gI, c_gL, c_gR, c_gS, c_pI, c_pZ, c_pL, c_pR, c_iald, c_ialg, c_iast, c_iasg, c_bald, c_bast, c_lald, c_last, c_aald, c_aals, c_aast, c_alen, c_bnd, c_str, c_bndl, c_bnln, c_sval, c_scod, c_sbal, c_sbln, c_fmt, c_stop, c_iret, c_zret, c_nret, c_aret, c_vret, c_lret, c_cpy, c_callV, c_callS, tkA, lget, lput, lkill, jpush, vsz, jcat, lins, lent, List.length_cons, List.length_nil, List.replicate, List.append_nil, List.cons_append, List.nil_append, reduceIte, Nat.reduceAdd, Nat.reduceSub, Nat.reduceEqDiff, true_and, and_true, Nat.reduceLeDiff, Nat.lt_irrefl, Nat.succ_ne_self, forall_const, ne_eq, not_true_eq_false, not_false_eq_true, false_implies, implies_true, true_implies, true_or, or_true, or_false, false_or, eq_self, Int.reduceEq, Int.reduceLT, Int.reduceLE, Int.reduceNeg, Int.reduceToNat, Int.reduceAdd, Int.reduceSub, Int.reduceMul, Int.reduceNe, and_self, Int.toNat_natCast, hv]
          refine ⟨fun z => absurd z (by omega), fun _ => ⟨⟨by omega, by omega⟩, ?_⟩⟩
          refine ok_RU_follow hN c1 (by omega) (by omega) ?_
          cases hq : fol nt k g with
          | none =>
            intro τ' t1
            simp only [w_RU_weigh_52, w_RU_weigh_53, c_ic, c_lc, c_nul, c_il, c_ll, c_al, c_is, c_ls, c_as, c_inc, c_b2, c_b2n, c_b1, c_d2, c_d2n, c_dsh, c_i2l, c_l2i, c_lcm, c_dup, c_dup2, c_pop, c_j1, c_j2, c_jn, c_sw0, c_sw, c_gI, c_gL, c_gR, c_gS, c_pI, c_pZ, c_pL, c_pR, c_iald, c_ialg, c_iast, c_iasg, c_bald, c_bast, c_lald, c_last, c_aald, c_aals, c_aast, c_alen, c_bnd, c_str, c_bndl, c_bnln, c_sval, c_scod, c_sbal, c_sbln, c_fmt, c_stop, c_iret, c_zret, c_nret, c_aret, c_vret, c_lret, c_cpy, c_callV, c_callS, tkA, lget, lput, lkill, jpush, vsz, jcat, lins, lent, List.length_cons, List.length_nil, List.replicate, List.append_nil, List.cons_append, List.nil_append, reduceIte, Nat.reduceAdd, Nat.reduceSub, Nat.reduceEqDiff, true_and, and_true, Nat.reduceLeDiff, Nat.lt_irrefl, Nat.succ_ne_self, forall_const, ne_eq, not_true_eq_false, not_false_eq_true, false_implies, implies_true, true_implies, true_or, or_true, or_false, false_or, eq_self, Int.reduceEq, Int.reduceLT, Int.reduceLE, Int.reduceNeg, Int.reduceToNat, Int.reduceAdd, Int.reduceSub, Int.reduceMul, Int.reduceNe, and_self, Int.toNat_natCast, inc_nat (show g ≤ 100000 by omega)]
            refine ⟨⟨by omega, by omega⟩, go τ' 0 t1 ?_⟩
            unfold fitV
            rw [hq]
            rfl
          | some x =>
            intro τ' t1 _
            simp only [w_RU_weigh_53, c_ic, c_lc, c_nul, c_il, c_ll, c_al, c_is, c_ls, c_as, c_inc, c_b2, c_b2n, c_b1, c_d2, c_d2n, c_dsh, c_i2l, c_l2i, c_lcm, c_dup, c_dup2, c_pop, c_j1, c_j2, c_jn, c_sw0, c_sw, c_gI, c_gL, c_gR, c_gS, c_pI, c_pZ, c_pL, c_pR, c_iald, c_ialg, c_iast, c_iasg, c_bald, c_bast, c_lald, c_last, c_aald, c_aals, c_aast, c_alen, c_bnd, c_str, c_bndl, c_bnln, c_sval, c_scod, c_sbal, c_sbln, c_fmt, c_stop, c_iret, c_zret, c_nret, c_aret, c_vret, c_lret, c_cpy, c_callV, c_callS, tkA, lget, lput, lkill, jpush, vsz, jcat, lins, lent, List.length_cons, List.length_nil, List.replicate, List.append_nil, List.cons_append, List.nil_append, reduceIte, Nat.reduceAdd, Nat.reduceSub, Nat.reduceEqDiff, true_and, and_true, Nat.reduceLeDiff, Nat.lt_irrefl, Nat.succ_ne_self, forall_const, ne_eq, not_true_eq_false, not_false_eq_true, false_implies, implies_true, true_implies, true_or, or_true, or_false, false_or, eq_self, Int.reduceEq, Int.reduceLT, Int.reduceLE, Int.reduceNeg, Int.reduceToNat, Int.reduceAdd, Int.reduceSub, Int.reduceMul, Int.reduceNe, and_self, Int.toNat_natCast, inc_nat (show g ≤ 100000 by omega)]
            refine ⟨⟨by omega, by omega⟩, go τ' _ t1 ?_⟩
            unfold fitV
            rw [hq]
            rfl
      simp only [w_RU_weigh_7, c_ic, c_lc, c_nul, c_il, c_ll, c_al, c_is, c_ls, c_as, c_inc, c_b2, c_b2n, c_b1, c_d2, c_d2n, c_dsh, c_i2l, c_l2i, c_lcm, c_dup, c_dup2, c_pop, c_j1, c_j2, c_jn, c_sw0, c_sw, c_gI, c_gL, c_gR, c_gS, c_pI, c_pZ, c_pL, c_pR, c_iald, c_ialg, c_iast, c_iasg, c_bald, c_bast, c_lald, c_last, c_aald, c_aals, c_aast, c_alen, c_bnd, c_str, c_bndl, c_bnln, c_sval, c_scod, c_sbal, c_sbln, c_fmt, c_stop, c_iret, c_zret, c_nret, c_aret, c_vret, c_lret, c_cpy, c_callV, c_callS, tkA, lget, lput, lkill, jpush, vsz, jcat, lins, lent, List.length_cons, List.length_nil, List.replicate, List.append_nil, List.cons_append, List.nil_append, reduceIte, Nat.reduceAdd, Nat.reduceSub, Nat.reduceEqDiff, true_and, and_true, Nat.reduceLeDiff, Nat.lt_irrefl, Nat.succ_ne_self, forall_const, ne_eq, not_true_eq_false, not_false_eq_true, false_implies, implies_true, true_implies, true_or, or_true, or_false, false_or, eq_self, Int.reduceEq, Int.reduceLT, Int.reduceLE, Int.reduceNeg, Int.reduceToNat, Int.reduceAdd, Int.reduceSub, Int.reduceMul, Int.reduceNe, and_self, c2, Int.toNat_natCast]
      refine ⟨fun z => absurd z (by omega), fun _ => ⟨⟨by omega, by omega⟩, ?_⟩⟩
      refine inn 10 0 _ rfl (hF.sI (Or.inl ⟨by decide, rfl⟩)) (fun i hi => ?_) hs (by simp only [g_sI, and_self, if_true]; rfl)
      simp only [g_sI, true_and]
      rw [if_neg (by omega)]
      exact hf i hi
  simp only [w_RU_weigh_0, c_ic, c_lc, c_nul, c_il, c_ll, c_al, c_is, c_ls, c_as, c_inc, c_b2, c_b2n, c_b1, c_d2, c_d2n, c_dsh, c_i2l, c_l2i, c_lcm, c_dup, c_dup2, c_pop, c_j1, c_j2, c_jn, c_sw0, c_sw, c_gI, c_gL, c_gR, c_gS, c_pI, c_pZ, c_pL, c_pR, c_iald, c_ialg, c_iast, c_iasg, c_bald, c_bast, c_lald, c_last, c_aald, c_aals, c_aast, c_alen, c_bnd, c_str, c_bndl, c_bnln, c_sval, c_scod, c_sbal, c_sbln, c_fmt, c_stop, c_iret, c_zret, c_nret, c_aret, c_vret, c_lret, c_cpy, c_callV, c_callS, tkA, lget, lput, lkill, jpush, vsz, jcat, lins, lent, List.length_cons, List.length_nil, List.replicate, List.append_nil, List.cons_append, List.nil_append, reduceIte, Nat.reduceAdd, Nat.reduceSub, Nat.reduceEqDiff, true_and, and_true, Nat.reduceLeDiff, Nat.lt_irrefl, Nat.succ_ne_self, forall_const, ne_eq, not_true_eq_false, not_false_eq_true, false_implies, implies_true, true_implies, true_or, or_true, or_false, false_or, eq_self, Int.reduceEq, Int.reduceLT, Int.reduceLE, Int.reduceNeg, Int.reduceToNat, Int.reduceAdd, Int.reduceSub, Int.reduceMul, Int.reduceNe, and_self]
  exact key K 0 _ none (Nat.zero_add _) (Fr.rf.sI (Or.inr ⟨rfl, rfl, rfl⟩)) (fun i hi => absurd hi (Nat.not_lt_zero i)) rfl
def SRu : jS := fun k j o => j = 0 ∧ ((34 ≤ k ∧ k ≤ 39) ∨ (k = 6 ∧ (o = 6 ∨ o = 7 ∨ o = 8)))
theorem SWe.u {k j o : Nat} (h : SWe k j o) : SRu k j o := by unfold SWe at h; unfold SRu; omega
theorem ok_RU_begin {σ : jM} {Φ : jPh} {d K : Nat} (hK : K ≤ 4) (h : ∀ τ, Fr SRu σ τ → UC τ K [] → Φ none τ) : Ct (d + 4) M_RU_begin [rf 6 0, .inl K] σ Φ := by
  refine i_RU_begin (Nat.le_refl 2) ?_
  simp only [w_RU_begin_0, c_ic, c_lc, c_nul, c_il, c_ll, c_al, c_is, c_ls, c_as, c_inc, c_b2, c_b2n, c_b1, c_d2, c_d2n, c_dsh, c_i2l, c_l2i, c_lcm, c_dup, c_dup2, c_pop, c_j1, c_j2, c_jn, c_sw0, c_sw, c_gI, c_gL, c_gR, c_gS, c_pI, c_pZ, c_pL, c_pR, c_iald, c_ialg, c_iast, c_iasg, c_bald, c_bast, c_lald, c_last, c_aald, c_aals, c_aast, c_alen, c_bnd, c_str, c_bndl, c_bnln, c_sval, c_scod, c_sbal, c_sbln, c_fmt, c_stop, c_iret, c_zret, c_nret, c_aret, c_vret, c_lret, c_cpy, c_callV, c_callS, tkA, lget, lput, lkill, jpush, vsz, jcat, lins, lent, List.length_cons, List.length_nil, List.replicate, List.append_nil, List.cons_append, List.nil_append, reduceIte, Nat.reduceAdd, Nat.reduceSub, Nat.reduceEqDiff, true_and, and_true, Nat.reduceLeDiff, Nat.lt_irrefl, Nat.succ_ne_self, forall_const, ne_eq, not_true_eq_false, not_false_eq_true, false_implies, implies_true, true_implies, true_or, or_true, or_false, false_or, eq_self, Int.reduceEq, Int.reduceLT, Int.reduceLE, Int.reduceNeg, Int.reduceToNat, Int.reduceAdd, Int.reduceSub, Int.reduceMul, Int.reduceNe, and_self]
  refine ok_MA_min ?_
  simp only [c_ic, c_lc, c_nul, c_il, c_ll, c_al, c_is, c_ls, c_as, c_inc, c_b2, c_b2n, c_b1, c_d2, c_d2n, c_dsh, c_i2l, c_l2i, c_lcm, c_dup, c_dup2, c_pop, c_j1, c_j2, c_jn, c_sw0, c_sw, c_gI, c_gL, c_gR, c_gS, c_pI, c_pZ, c_pL, c_pR, c_iald, c_ialg, c_iast, c_iasg, c_bald, c_bast, c_lald, c_last, c_aald, c_aals, c_aast, c_alen, c_bnd, c_str, c_bndl, c_bnln, c_sval, c_scod, c_sbal, c_sbln, c_fmt, c_stop, c_iret, c_zret, c_nret, c_aret, c_vret, c_lret, c_cpy, c_callV, c_callS, tkA, lget, lput, lkill, jpush, vsz, jcat, lins, lent, List.length_cons, List.length_nil, List.replicate, List.append_nil, List.cons_append, List.nil_append, reduceIte, Nat.reduceAdd, Nat.reduceSub, Nat.reduceEqDiff, true_and, and_true, Nat.reduceLeDiff, Nat.lt_irrefl, Nat.succ_ne_self, forall_const, ne_eq, not_true_eq_false, not_false_eq_true, false_implies, implies_true, true_implies, true_or, or_true, or_false, false_or, eq_self, Int.reduceEq, Int.reduceLT, Int.reduceLE, Int.reduceNeg, Int.reduceToNat, Int.reduceAdd, Int.reduceSub, Int.reduceMul, Int.reduceNe, and_self]
  refine ok_MA_max ?_
  simp only [c_ic, c_lc, c_nul, c_il, c_ll, c_al, c_is, c_ls, c_as, c_inc, c_b2, c_b2n, c_b1, c_d2, c_d2n, c_dsh, c_i2l, c_l2i, c_lcm, c_dup, c_dup2, c_pop, c_j1, c_j2, c_jn, c_sw0, c_sw, c_gI, c_gL, c_gR, c_gS, c_pI, c_pZ, c_pL, c_pR, c_iald, c_ialg, c_iast, c_iasg, c_bald, c_bast, c_lald, c_last, c_aald, c_aals, c_aast, c_alen, c_bnd, c_str, c_bndl, c_bnln, c_sval, c_scod, c_sbal, c_sbln, c_fmt, c_stop, c_iret, c_zret, c_nret, c_aret, c_vret, c_lret, c_cpy, c_callV, c_callS, tkA, lget, lput, lkill, jpush, vsz, jcat, lins, lent, List.length_cons, List.length_nil, List.replicate, List.append_nil, List.cons_append, List.nil_append, reduceIte, Nat.reduceAdd, Nat.reduceSub, Nat.reduceEqDiff, true_and, and_true, Nat.reduceLeDiff, Nat.lt_irrefl, Nat.succ_ne_self, forall_const, ne_eq, not_true_eq_false, not_false_eq_true, false_implies, implies_true, true_implies, true_or, or_true, or_false, false_or, eq_self, Int.reduceEq, Int.reduceLT, Int.reduceLE, Int.reduceNeg, Int.reduceToNat, Int.reduceAdd, Int.reduceSub, Int.reduceMul, Int.reduceNe, and_self]
  rw [show max (0 : Int) (min 4 (K : Int)) = K by omega]
  have hF : Fr SRu σ (sI (sI σ 6 0 6 K) 6 0 7 0) := (Fr.rf.sI ⟨rfl, Or.inr ⟨rfl, by decide⟩⟩).sI ⟨rfl, Or.inr ⟨rfl, by decide⟩⟩
  refine ok_RU_weigh (nt := []) (K := K) ⟨by decide, fun q hq => absurd hq (by simp)⟩ ⟨rfl, fun i hi => absurd hi (by simp)⟩ hK rfl (fun τ t1 t2 => ?_)
  simp only [c_ic, c_lc, c_nul, c_il, c_ll, c_al, c_is, c_ls, c_as, c_inc, c_b2, c_b2n, c_b1, c_d2, c_d2n, c_dsh, c_i2l, c_l2i, c_lcm, c_dup, c_dup2, c_pop, c_j1, c_j2, c_jn, c_sw0, c_sw, c_gI, c_gL, c_gR, c_gS, c_pI, c_pZ, c_pL, c_pR, c_iald, c_ialg, c_iast, c_iasg, c_bald, c_bast, c_lald, c_last, c_aald, c_aals, c_aast, c_alen, c_bnd, c_str, c_bndl, c_bnln, c_sval, c_scod, c_sbal, c_sbln, c_fmt, c_stop, c_iret, c_zret, c_nret, c_aret, c_vret, c_lret, c_cpy, c_callV, c_callS, tkA, lget, lput, lkill, jpush, vsz, jcat, lins, lent, List.length_cons, List.length_nil, List.replicate, List.append_nil, List.cons_append, List.nil_append, reduceIte, Nat.reduceAdd, Nat.reduceSub, Nat.reduceEqDiff, true_and, and_true, Nat.reduceLeDiff, Nat.lt_irrefl, Nat.succ_ne_self, forall_const, ne_eq, not_true_eq_false, not_false_eq_true, false_implies, implies_true, true_implies, true_or, or_true, or_false, false_or, eq_self, Int.reduceEq, Int.reduceLT, Int.reduceLE, Int.reduceNeg, Int.reduceToNat, Int.reduceAdd, Int.reduceSub, Int.reduceMul, Int.reduceNe, and_self]
  exact h τ (hF.tr (t1.wk (fun _ _ _ q => q.u))) t2
theorem ok_RU_hear {σ : jM} {Φ : jPh} {d K k f : Nat} {n : Int} {nt : List jN} (hK : K ≤ 4) (hU : UC σ K nt) (hk : k < K) (hf : f < 8) (hn : 0 ≤ n ∧ n ≤ 29) (h1 : nt.length = 10 → Φ (some (.inl 0)) σ) (h2 : nt.length < 10 → ∀ τ, Fr SRu σ τ → UC τ K (nt ++ [(k, f, n)]) → Φ (some (.inl 1)) τ) : Ct (d + 4) M_RU_hear [rf 6 0, .inl k, .inl f, .inl n] σ Φ := by
  refine i_RU_hear (Nat.le_succ 4) ?_
  obtain ⟨u1, u2, u3, u4, u5⟩ := hU
  have c := u2.1
  have n10 := u1.1
  simp only [w_RU_hear_0, w_RU_hear_27, w_RU_hear_50, c_ic, c_lc, c_nul, c_il, c_ll, c_al, c_is, c_ls, c_as, c_inc, c_b2, c_b2n, c_b1, c_d2, c_d2n, c_dsh, c_i2l, c_l2i, c_lcm, c_dup, c_dup2, c_pop, c_j1, c_j2, c_jn, c_sw0, c_sw, c_gI, c_gL, c_gR, c_gS, c_pI, c_pZ, c_pL, c_pR, c_iald, c_ialg, c_iast, c_iasg, c_bald, c_bast, c_lald, c_last, c_aald, c_aals, c_aast, c_alen, c_bnd, c_str, c_bndl, c_bnln, c_sval, c_scod, c_sbal, c_sbln, c_fmt, c_stop, c_iret, c_zret, c_nret, c_aret, c_vret, c_lret, c_cpy, c_callV, c_callS, tkA, lget, lput, lkill, jpush, vsz, jcat, lins, lent, List.length_cons, List.length_nil, List.replicate, List.append_nil, List.cons_append, List.nil_append, reduceIte, Nat.reduceAdd, Nat.reduceSub, Nat.reduceEqDiff, true_and, and_true, Nat.reduceLeDiff, Nat.lt_irrefl, Nat.succ_ne_self, forall_const, ne_eq, not_true_eq_false, not_false_eq_true, false_implies, implies_true, true_implies, true_or, or_true, or_false, false_or, eq_self, Int.reduceEq, Int.reduceLT, Int.reduceLE, Int.reduceNeg, Int.reduceToNat, Int.reduceAdd, Int.reduceSub, Int.reduceMul, Int.reduceNe, and_self, u3, c]
  refine ⟨fun z => absurd z (by omega), fun _ => ⟨fun z => absurd z (by omega), fun _ => ⟨fun z => absurd z (by omega), fun _ => ⟨fun z => absurd z (by omega), fun _ => ⟨fun z => absurd z (by omega), fun _ => ⟨fun z => ?_, fun z => h1 (by omega)⟩⟩⟩⟩⟩⟩
  simp only [w_RU_hear_52, c_ic, c_lc, c_nul, c_il, c_ll, c_al, c_is, c_ls, c_as, c_inc, c_b2, c_b2n, c_b1, c_d2, c_d2n, c_dsh, c_i2l, c_l2i, c_lcm, c_dup, c_dup2, c_pop, c_j1, c_j2, c_jn, c_sw0, c_sw, c_gI, c_gL, c_gR, c_gS, c_pI, c_pZ, c_pL, c_pR, c_iald, c_ialg, c_iast, c_iasg, c_bald, c_bast, c_lald, c_last, c_aald, c_aals, c_aast, c_alen, c_bnd, c_str, c_bndl, c_bnln, c_sval, c_scod, c_sbal, c_sbln, c_fmt, c_stop, c_iret, c_zret, c_nret, c_aret, c_vret, c_lret, c_cpy, c_callV, c_callS, tkA, lget, lput, lkill, jpush, vsz, jcat, lins, lent, List.length_cons, List.length_nil, List.replicate, List.append_nil, List.cons_append, List.nil_append, reduceIte, Nat.reduceAdd, Nat.reduceSub, Nat.reduceEqDiff, true_and, and_true, Nat.reduceLeDiff, Nat.lt_irrefl, Nat.succ_ne_self, forall_const, ne_eq, not_true_eq_false, not_false_eq_true, false_implies, implies_true, true_implies, true_or, or_true, or_false, false_or, eq_self, Int.reduceEq, Int.reduceLT, Int.reduceLE, Int.reduceNeg, Int.reduceToNat, Int.reduceAdd, Int.reduceSub, Int.reduceMul, Int.reduceNe, and_self, c, Int.toNat_natCast, g_sI, Nat.reduceEqDiff, false_and, if_false]
  rw [wr_id (by omega) (by omega)]
  refine ⟨⟨by omega, by omega⟩, ⟨by omega, by omega⟩, ⟨by omega, by omega⟩, ?_⟩
  have hlen : (nt ++ [(k, f, n)]).length = nt.length + 1 := by simp
  have hF : Fr SRu σ (sI (sI (sI (sI σ 34 0 nt.length k) 35 0 nt.length f) 36 0 nt.length n) 6 0 7 ((nt.length : Int) + 1)) := (((Fr.rf.sI ⟨rfl, Or.inl (by decide)⟩).sI ⟨rfl, Or.inl (by decide)⟩).sI ⟨rfl, Or.inl (by decide)⟩).sI ⟨rfl, Or.inr ⟨rfl, by decide⟩⟩
  refine ok_RU_weigh (nt := nt ++ [(k, f, n)]) (K := K) ⟨by omega, fun q hq => ?_⟩ ⟨?_, fun i hi => ?_⟩ hK u3 (fun τ t1 t2 => ?_)
  · rcases List.mem_append.mp hq with q1 | q1
    · exact u1.2 q q1
    · rw [List.mem_singleton.mp q1]
      exact ⟨by show k < 4; omega, hf, hn⟩
  · simp only [g_sI, and_self, if_true]
    omega
  · rw [hlen] at hi
    simp only [g_sI, Nat.reduceEqDiff, false_and, if_false, true_and]
    by_cases y : i = nt.length
    · rw [if_pos y, if_pos y, if_pos y, List.getD_eq_getElem?_getD, List.getElem?_append_right (by omega), show i - nt.length = 0 by omega]
      exact ⟨rfl, rfl, rfl⟩
    · rw [if_neg y, if_neg y, if_neg y, List.getD_eq_getElem?_getD, List.getElem?_append_left (by omega), ← List.getD_eq_getElem?_getD]
      exact u2.2 i (by omega)
  · simp only [c_ic, c_lc, c_nul, c_il, c_ll, c_al, c_is, c_ls, c_as, c_inc, c_b2, c_b2n, c_b1, c_d2, c_d2n, c_dsh, c_i2l, c_l2i, c_lcm, c_dup, c_dup2, c_pop, c_j1, c_j2, c_jn, c_sw0, c_sw, c_gI, c_gL, c_gR, c_gS, c_pI, c_pZ, c_pL, c_pR, c_iald, c_ialg, c_iast, c_iasg, c_bald, c_bast, c_lald, c_last, c_aald, c_aals, c_aast, c_alen, c_bnd, c_str, c_bndl, c_bnln, c_sval, c_scod, c_sbal, c_sbln, c_fmt, c_stop, c_iret, c_zret, c_nret, c_aret, c_vret, c_lret, c_cpy, c_callV, c_callS, tkA, lget, lput, lkill, jpush, vsz, jcat, lins, lent, List.length_cons, List.length_nil, List.replicate, List.append_nil, List.cons_append, List.nil_append, reduceIte, Nat.reduceAdd, Nat.reduceSub, Nat.reduceEqDiff, true_and, and_true, Nat.reduceLeDiff, Nat.lt_irrefl, Nat.succ_ne_self, forall_const, ne_eq, not_true_eq_false, not_false_eq_true, false_implies, implies_true, true_implies, true_or, or_true, or_false, false_or, eq_self, Int.reduceEq, Int.reduceLT, Int.reduceLE, Int.reduceNeg, Int.reduceToNat, Int.reduceAdd, Int.reduceSub, Int.reduceMul, Int.reduceNe, and_self]
    exact h2 (by omega) τ (hF.tr (t1.wk (fun _ _ _ q => q.u))) t2
