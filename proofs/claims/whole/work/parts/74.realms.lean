/-! ===== 74 the texts of realms: the grammar, the class's reader ===== -/
abbrev RS : Type := Bool × Nat × Nat × (Nat → Int) × (Nat → Int) × (Nat → Int)
def dfl (li o : Nat) : Int := match li with
  | 0 => (match o with | 0 => 1 | 1 => 20 | _ => 0)
  | 1 => (match o with | 0 => 8 | 1 => 2 | 2 => 3 | _ => 0)
  | _ => (match o with | 1 => 1 | 3 => 7 | _ => 0)
section RM
variable (T : Nat → Int) (n : Nat)
def pItems (li : Nat) (bd : Nat → Int) : Nat → Nat → Nat → (Nat → Int) → Nat ⊕ (Nat × (Nat → Int))
  | 0, a, _, v => .inr (a, v)
  | m + 1, a, s, v => if sidx li (sg T n a) < 0 ∨ s / 2 ^ (sidx li (sg T n a)).toNat % 2 = 1 then .inr (a, v) else match numR T n 2 (bd (sidx li (sg T n a)).toNat) (nx T n a) with
    | .inl p => .inl p
    | .inr q => pItems li bd m q.1 (s + 2 ^ (sidx li (sg T n a)).toNat) (up v (sidx li (sg T n a)).toNat q.2)
def pRcl (s : RS) (a : Nat) : Nat ⊕ (Nat × RS) :=
  if sg T n a = 115 ∧ s.1 = false then (match pItems T n 0 (jbnd 0) 2 (nx T n a) 0 (dfl 0) with
    | .inl p => .inl p
    | .inr q => .inr (q.1, true, s.2.1, s.2.2.1, q.2, s.2.2.2.2.1, s.2.2.2.2.2))
  else if sg T n a = 107 ∧ s.2.1 < 4 then (match pItems T n 1 (jbnd 1) 3 (nx T n a) 0 (dfl 1) with
    | .inl p => .inl p
    | .inr q => .inr (q.1, s.1, s.2.1 + 1, s.2.2.1, s.2.2.2.1, cpS q.2 s.2.2.2.2.1 (3 * s.2.1) 3, s.2.2.2.2.2))
  else if sg T n a = 102 ∧ s.2.2.1 < 8 then (match pItems T n 2 (jbnd 2) 4 (nx T n a) 0 (dfl 2) with
    | .inl p => .inl p
    | .inr q => .inr (q.1, s.1, s.2.1, s.2.2.1 + 1, s.2.2.2.1, s.2.2.2.2.1, cpS q.2 s.2.2.2.2.2 (4 * s.2.2.1) 4))
  else .inl a
def pRcls : Nat → Nat → RS → Nat ⊕ (Nat × RS)
  | 0, a, s => .inr (a, s)
  | m + 1, a, s => if sg T n a = 59 then (match pRcl T n s (nx T n a) with
      | .inl p => .inl p
      | .inr q => pRcls m q.1 q.2) else .inr (a, s)
abbrev stn (s : RS) : Prop := 2 ≤ s.2.1 ∧ 1 ≤ s.2.2.1 ∧ ∀ f, f < s.2.2.1 → s.2.2.2.2.2 (4 * f) < s.2.1 ∧ s.2.2.2.2.2 (4 * f + 1) < s.2.1 ∧ s.2.2.2.2.2 (4 * f) ≠ s.2.2.2.2.2 (4 * f + 1)
def rs0 : RS := (false, 0, 0, dfl 0, fun _ => 0, fun _ => 0)
def pRend (q : Nat × RS) : Nat ⊕ RS := if q.1 < n then .inl q.1 else if stn q.2 then .inr q.2 else .inl q.1
def pRealm : Nat ⊕ RS := match pRcl T n rs0 (nb T n 0) with
  | .inl p => .inl p
  | .inr q => match pRcls T n 240 q.1 q.2 with
    | .inl p => .inl p
    | .inr q => pRend n q
end RM
def ItP (Q1 : Nat → Prop) (Q2 : Nat → (Nat → Int) → Prop) (r : Nat ⊕ (Nat × (Nat → Int))) : Prop := match r with
  | .inl p => Q1 p
  | .inr q => Q2 q.1 q.2
def RcP (Q1 : Nat → Prop) (Q2 : Nat → RS → Prop) (r : Nat ⊕ (Nat × RS)) : Prop := match r with
  | .inl p => Q1 p
  | .inr q => Q2 q.1 q.2
def ReP (Q1 : Nat → Prop) (Q2 : RS → Prop) (r : Nat ⊕ RS) : Prop := match r with
  | .inl p => Q1 p
  | .inr s => Q2 s
/-- a realm, in the class -/
def RV (σ : jM) (r : Nat) (s : RS) : Prop := s.2.1 ≤ 4 ∧ s.2.2.1 ≤ 8 ∧ σ.1 5 r 8 = s.2.1 ∧ σ.1 5 r 9 = s.2.2.1 ∧ (σ.1 5 r 10 = if s.1 = true then 1 else 0) ∧ σ.1 5 r 11 = s.2.2.2.1 0 ∧ σ.1 5 r 12 = s.2.2.2.1 1 ∧
  (∀ k, k < s.2.1 → σ.1 26 r k = s.2.2.2.2.1 (3 * k) ∧ σ.1 27 r k = s.2.2.2.2.1 (3 * k + 1) ∧ σ.1 28 r k = s.2.2.2.2.1 (3 * k + 2)) ∧
  ∀ f, f < s.2.2.1 → σ.1 29 r f = s.2.2.2.2.2 (4 * f) ∧ σ.1 30 r f = s.2.2.2.2.2 (4 * f + 1) ∧ σ.1 31 r f = s.2.2.2.2.2 (4 * f + 2) ∧ σ.1 32 r f = s.2.2.2.2.2 (4 * f + 3)
def RB (σ : jM) (r : Nat) : Prop := (0 ≤ σ.1 5 r 8 ∧ σ.1 5 r 8 ≤ 4) ∧ 0 ≤ σ.1 5 r 9 ∧ σ.1 5 r 9 ≤ 8
def SRi (r : Nat) : jS := fun k j o => (k = 7 ∧ j = 0 ∧ (o = 2 ∨ o = 3)) ∨ (k = 33 ∧ j = r)
def SRe (r : Nat) : jS := fun k j o => (k = 7 ∧ j = 0 ∧ (o = 2 ∨ o = 3)) ∨ (j = r ∧ ((k = 5 ∧ 8 ≤ o ∧ o ≤ 12) ∨ (26 ≤ k ∧ k ≤ 33)))
theorem SRi.e {r k j o : Nat} (h : SRi r k j o) : SRe r k j o := by
  rcases h with h | h
  · exact Or.inl h
  · exact Or.inr ⟨h.2, Or.inr (by omega)⟩
theorem RV.b {σ : jM} {r : Nat} {s : RS} (h : RV σ r s) : RB σ r := by
  obtain ⟨h1, h2, h3, h4, -⟩ := h
  exact ⟨by omega, by omega⟩
theorem RB.i {σ τ : jM} {r : Nat} (hF : Fr (SRi r) σ τ) (h : RB σ r) : RB τ r := by
  have n : ∀ o, ¬ SRi r 5 r o := fun o q => by unfold SRi at q; omega
  unfold RB
  rw [hF.i (n 8), hF.i (n 9)]
  exact h
theorem RV.i {σ τ : jM} {r : Nat} {s : RS} (hF : Fr (SRi r) σ τ) (h : RV σ r s) : RV τ r s := by
  have n : ∀ k o, (k = 5 ∨ (26 ≤ k ∧ k ≤ 32)) → ¬ SRi r k r o := fun k o w q => by unfold SRi at q; omega
  obtain ⟨h1, h2, h3, h4, h5, h6, h7, h8, h9⟩ := h
  refine ⟨h1, h2, by rw [hF.i (n 5 8 (by omega))]; exact h3, by rw [hF.i (n 5 9 (by omega))]; exact h4, by rw [hF.i (n 5 10 (by omega))]; exact h5, by rw [hF.i (n 5 11 (by omega))]; exact h6, by rw [hF.i (n 5 12 (by omega))]; exact h7, fun k hk => ?_, fun f hf => ?_⟩
  · rw [hF.i (n 26 k (by omega)), hF.i (n 27 k (by omega)), hF.i (n 28 k (by omega))]; exact h8 k hk
  · rw [hF.i (n 29 f (by omega)), hF.i (n 30 f (by omega)), hF.i (n 31 f (by omega)), hF.i (n 32 f (by omega))]; exact h9 f hf
theorem ok_RE_setItems {σ : jM} {Φ : jPh} {d r : Nat} {a b c e : Int} (h : Φ none (sI (sI (sI (sI σ 33 r 0 a) 33 r 1 b) 33 r 2 c) 33 r 3 e)) : Ct (d + 1) M_RE_setItems [rf 5 r, .inl a, .inl b, .inl c, .inl e] σ Φ := by
  refine i_RE_setItems (Nat.le_refl 5) ?_
  simp only [w_RE_setItems_0, c_ic, c_lc, c_nul, c_il, c_ll, c_al, c_is, c_ls, c_as, c_inc, c_b2, c_b2n, c_b1, c_d2, c_d2n, c_dsh, c_i2l, c_l2i, c_lcm, c_dup, c_dup2, c_pop, c_j1, c_j2, c_jn, c_sw0, c_sw, c_gI, c_gL, c_gR, c_gS, c_pI, c_pZ, c_pL, c_pR, c_iald, c_ialg, c_iast, c_iasg, c_bald, c_bast, c_lald, c_last, c_aald, c_aals, c_aast, c_alen, c_bnd, c_str, c_bndl, c_bnln, c_sval, c_scod, c_sbal, c_sbln, c_fmt, c_stop, c_iret, c_zret, c_nret, c_aret, c_vret, c_lret, c_cpy, c_callV, c_callS, tkA, lget, lput, lkill, jpush, vsz, jcat, lins, lent, List.length_cons, List.length_nil, List.replicate, List.append_nil, List.cons_append, List.nil_append, reduceIte, Nat.reduceAdd, Nat.reduceSub, Nat.reduceEqDiff, true_and, and_true, Nat.reduceLeDiff, Nat.lt_irrefl, Nat.succ_ne_self, forall_const, ne_eq, not_true_eq_false, not_false_eq_true, false_implies, implies_true, true_implies, true_or, or_true, or_false, false_or, eq_self, Int.reduceEq, Int.reduceLT, Int.reduceLE, Int.reduceNeg, Int.reduceToNat, Int.reduceAdd, Int.reduceSub, Int.reduceMul, Int.reduceNe, and_self]
  exact ⟨by decide, by decide, by decide, by decide, h⟩
theorem sb : ∀ s : Nat, s < 16 → ∀ w : Nat, w < 4 → s / 2 ^ w % 2 = 0 → jor s (jshl 1 w) = ((s + 2 ^ w : Nat) : Int) ∧ s + 2 ^ w < 16 := by decide +kernel
theorem btn (s w : Nat) : bt s w = ((s / 2 ^ w % 2 : Nat) : Int) := by unfold bt; push_cast; rfl
theorem sidx_lenN : ∀ li : Nat, li < 3 → ∀ c : Nat, c < 256 → sidx li c < slen li := by decide +kernel
theorem sidx_len {li : Nat} {c : Int} (h : li < 3) (hc : -1 ≤ c ∧ c ≤ 255) : sidx li c < slen li := by
  by_cases z : c = -1
  · rw [z, sidx_neg]; omega
  · obtain ⟨m, hm⟩ := Int.eq_ofNat_of_zero_le (show 0 ≤ c by omega)
    have := sidx_lenN li h m (by omega)
    rw [hm]
    exact this
theorem slen3 : ∀ li : Nat, li < 3 → slen li = li + 2 ∧ jbdl li = slen li := by decide +kernel
theorem ok_RE_readItems {σ : jM} {Φ : jPh} {d n a r li : Nat} {T : Nat → Int} {v : Nat → Int} (hli : li < 3) (hT : sgs n T) (hv : TV σ n T a (-1)) (hit : ∀ o, o < 4 → σ.1 33 r o = v o) (h : ItP (fun p => ∀ τ, Fr (SRi r) σ τ → TV τ n T n p → Φ none τ) (fun b w => ∀ τ, Fr (SRi r) σ τ → TV τ n T b (-1) → (∀ o, o < 4 → τ.1 33 r o = w o) → Φ none τ) (pItems T n li (jbnd li) (slen li) a 0 v)) : Ct (d + 6) M_RE_readItems [rf 5 r, rf 7 0, rf 90 li, rf 91 li] σ Φ := by
  refine i_RE_readItems (Nat.le_add_right 4 3) (fun At h6 => ?_)
  obtain ⟨hl1, hl2⟩ := slen3 li hli
  have S2 : SRi r 7 0 2 := Or.inl ⟨rfl, rfl, Or.inl rfl⟩
  have S3 : SRi r 7 0 3 := Or.inl ⟨rfl, rfl, Or.inr rfl⟩
  have S33 : ∀ o, SRi r 33 r o := fun o => Or.inr ⟨rfl, rfl⟩
  have bad : ∀ (τ : jM) (p i : Nat) (x y : Option jV), i ≤ 10 → Fr (SRi r) σ τ → TV τ n T n p → (∀ τ, Fr (SRi r) σ τ → TV τ n T n p → Φ none τ) → At 6 [some (rf 5 r), some (rf 7 0), some (rf 90 li), some (rf 91 li), x, some (.inl i), y] [] τ := by
    intro τ p i x y hi hF hv hq
    refine h6 _ _ _ ?_
    simp only [w_RE_readItems_6, w_RE_readItems_94, w_RE_readItems_58, c_ic, c_lc, c_nul, c_il, c_ll, c_al, c_is, c_ls, c_as, c_inc, c_b2, c_b2n, c_b1, c_d2, c_d2n, c_dsh, c_i2l, c_l2i, c_lcm, c_dup, c_dup2, c_pop, c_j1, c_j2, c_jn, c_sw0, c_sw, c_gI, c_gL, c_gR, c_gS, c_pI, c_pZ, c_pL, c_pR, c_iald, c_ialg, c_iast, c_iasg, c_bald, c_bast, c_lald, c_last, c_aald, c_aals, c_aast, c_alen, c_bnd, c_str, c_bndl, c_bnln, c_sval, c_scod, c_sbal, c_sbln, c_fmt, c_stop, c_iret, c_zret, c_nret, c_aret, c_vret, c_lret, c_cpy, c_callV, c_callS, tkA, lget, lput, lkill, jpush, vsz, jcat, lins, lent, List.length_cons, List.length_nil, List.replicate, List.append_nil, List.cons_append, List.nil_append, reduceIte, Nat.reduceAdd, Nat.reduceSub, Nat.reduceEqDiff, true_and, and_true, Nat.reduceLeDiff, Nat.lt_irrefl, Nat.succ_ne_self, forall_const, ne_eq, not_true_eq_false, not_false_eq_true, false_implies, implies_true, true_implies, true_or, or_true, or_false, false_or, eq_self, Int.reduceEq, Int.reduceLT, Int.reduceLE, Int.reduceNeg, Int.reduceToNat, Int.reduceAdd, Int.reduceSub, Int.reduceMul, Int.reduceNe, and_self]
    refine ok_ST_length ?_
    simp only [c_ic, c_lc, c_nul, c_il, c_ll, c_al, c_is, c_ls, c_as, c_inc, c_b2, c_b2n, c_b1, c_d2, c_d2n, c_dsh, c_i2l, c_l2i, c_lcm, c_dup, c_dup2, c_pop, c_j1, c_j2, c_jn, c_sw0, c_sw, c_gI, c_gL, c_gR, c_gS, c_pI, c_pZ, c_pL, c_pR, c_iald, c_ialg, c_iast, c_iasg, c_bald, c_bast, c_lald, c_last, c_aald, c_aals, c_aast, c_alen, c_bnd, c_str, c_bndl, c_bnln, c_sval, c_scod, c_sbal, c_sbln, c_fmt, c_stop, c_iret, c_zret, c_nret, c_aret, c_vret, c_lret, c_cpy, c_callV, c_callS, tkA, lget, lput, lkill, jpush, vsz, jcat, lins, lent, List.length_cons, List.length_nil, List.replicate, List.append_nil, List.cons_append, List.nil_append, reduceIte, Nat.reduceAdd, Nat.reduceSub, Nat.reduceEqDiff, true_and, and_true, Nat.reduceLeDiff, Nat.lt_irrefl, Nat.succ_ne_self, forall_const, ne_eq, not_true_eq_false, not_false_eq_true, false_implies, implies_true, true_implies, true_or, or_true, or_false, false_or, eq_self, Int.reduceEq, Int.reduceLT, Int.reduceLE, Int.reduceNeg, Int.reduceToNat, Int.reduceAdd, Int.reduceSub, Int.reduceMul, Int.reduceNe, and_self]
    refine ⟨fun _ => hq τ hF hv, fun _ => ?_⟩
    refine ok_TA_sign hv ?_
    rw [sg_end]
    simp only [c_ic, c_lc, c_nul, c_il, c_ll, c_al, c_is, c_ls, c_as, c_inc, c_b2, c_b2n, c_b1, c_d2, c_d2n, c_dsh, c_i2l, c_l2i, c_lcm, c_dup, c_dup2, c_pop, c_j1, c_j2, c_jn, c_sw0, c_sw, c_gI, c_gL, c_gR, c_gS, c_pI, c_pZ, c_pL, c_pR, c_iald, c_ialg, c_iast, c_iasg, c_bald, c_bast, c_lald, c_last, c_aald, c_aals, c_aast, c_alen, c_bnd, c_str, c_bndl, c_bnln, c_sval, c_scod, c_sbal, c_sbln, c_fmt, c_stop, c_iret, c_zret, c_nret, c_aret, c_vret, c_lret, c_cpy, c_callV, c_callS, tkA, lget, lput, lkill, jpush, vsz, jcat, lins, lent, List.length_cons, List.length_nil, List.replicate, List.append_nil, List.cons_append, List.nil_append, reduceIte, Nat.reduceAdd, Nat.reduceSub, Nat.reduceEqDiff, true_and, and_true, Nat.reduceLeDiff, Nat.lt_irrefl, Nat.succ_ne_self, forall_const, ne_eq, not_true_eq_false, not_false_eq_true, false_implies, implies_true, true_implies, true_or, or_true, or_false, false_or, eq_self, Int.reduceEq, Int.reduceLT, Int.reduceLE, Int.reduceNeg, Int.reduceToNat, Int.reduceAdd, Int.reduceSub, Int.reduceMul, Int.reduceNe, and_self]
    refine ok_TA_placeIn (by omega) (by decide) ?_
    rw [sidx_neg]
    simp only [c_ic, c_lc, c_nul, c_il, c_ll, c_al, c_is, c_ls, c_as, c_inc, c_b2, c_b2n, c_b1, c_d2, c_d2n, c_dsh, c_i2l, c_l2i, c_lcm, c_dup, c_dup2, c_pop, c_j1, c_j2, c_jn, c_sw0, c_sw, c_gI, c_gL, c_gR, c_gS, c_pI, c_pZ, c_pL, c_pR, c_iald, c_ialg, c_iast, c_iasg, c_bald, c_bast, c_lald, c_last, c_aald, c_aals, c_aast, c_alen, c_bnd, c_str, c_bndl, c_bnln, c_sval, c_scod, c_sbal, c_sbln, c_fmt, c_stop, c_iret, c_zret, c_nret, c_aret, c_vret, c_lret, c_cpy, c_callV, c_callS, tkA, lget, lput, lkill, jpush, vsz, jcat, lins, lent, List.length_cons, List.length_nil, List.replicate, List.append_nil, List.cons_append, List.nil_append, reduceIte, Nat.reduceAdd, Nat.reduceSub, Nat.reduceEqDiff, true_and, and_true, Nat.reduceLeDiff, Nat.lt_irrefl, Nat.succ_ne_self, forall_const, ne_eq, not_true_eq_false, not_false_eq_true, false_implies, implies_true, true_implies, true_or, or_true, or_false, false_or, eq_self, Int.reduceEq, Int.reduceLT, Int.reduceLE, Int.reduceNeg, Int.reduceToNat, Int.reduceAdd, Int.reduceSub, Int.reduceMul, Int.reduceNe, and_self]
    exact hq τ hF hv
  have key : ∀ (m i s : Nat) (τ : jM) (b : Nat) (w : Nat → Int) (y : Option jV), i + m = slen li → s < 16 → Fr (SRi r) σ τ → TV τ n T b (-1) → (∀ o, o < 4 → τ.1 33 r o = w o) → ItP (fun p => ∀ τ, Fr (SRi r) σ τ → TV τ n T n p → Φ none τ) (fun b w => ∀ τ, Fr (SRi r) σ τ → TV τ n T b (-1) → (∀ o, o < 4 → τ.1 33 r o = w o) → Φ none τ) (pItems T n li (jbnd li) m b s w) → At 6 [some (rf 5 r), some (rf 7 0), some (rf 90 li), some (rf 91 li), some (.inl s), some (.inl i), y] [] τ := by
    intro m
    induction m with
    | zero =>
      intro i s τ b w y hi hs hF hv hw hq
      refine h6 _ _ _ ?_
      simp only [w_RE_readItems_6, w_RE_readItems_94, c_ic, c_lc, c_nul, c_il, c_ll, c_al, c_is, c_ls, c_as, c_inc, c_b2, c_b2n, c_b1, c_d2, c_d2n, c_dsh, c_i2l, c_l2i, c_lcm, c_dup, c_dup2, c_pop, c_j1, c_j2, c_jn, c_sw0, c_sw, c_gI, c_gL, c_gR, c_gS, c_pI, c_pZ, c_pL, c_pR, c_iald, c_ialg, c_iast, c_iasg, c_bald, c_bast, c_lald, c_last, c_aald, c_aals, c_aast, c_alen, c_bnd, c_str, c_bndl, c_bnln, c_sval, c_scod, c_sbal, c_sbln, c_fmt, c_stop, c_iret, c_zret, c_nret, c_aret, c_vret, c_lret, c_cpy, c_callV, c_callS, tkA, lget, lput, lkill, jpush, vsz, jcat, lins, lent, List.length_cons, List.length_nil, List.replicate, List.append_nil, List.cons_append, List.nil_append, reduceIte, Nat.reduceAdd, Nat.reduceSub, Nat.reduceEqDiff, true_and, and_true, Nat.reduceLeDiff, Nat.lt_irrefl, Nat.succ_ne_self, forall_const, ne_eq, not_true_eq_false, not_false_eq_true, false_implies, implies_true, true_implies, true_or, or_true, or_false, false_or, eq_self, Int.reduceEq, Int.reduceLT, Int.reduceLE, Int.reduceNeg, Int.reduceToNat, Int.reduceAdd, Int.reduceSub, Int.reduceMul, Int.reduceNe, and_self]
      refine ok_ST_length ?_
      simp only [c_ic, c_lc, c_nul, c_il, c_ll, c_al, c_is, c_ls, c_as, c_inc, c_b2, c_b2n, c_b1, c_d2, c_d2n, c_dsh, c_i2l, c_l2i, c_lcm, c_dup, c_dup2, c_pop, c_j1, c_j2, c_jn, c_sw0, c_sw, c_gI, c_gL, c_gR, c_gS, c_pI, c_pZ, c_pL, c_pR, c_iald, c_ialg, c_iast, c_iasg, c_bald, c_bast, c_lald, c_last, c_aald, c_aals, c_aast, c_alen, c_bnd, c_str, c_bndl, c_bnln, c_sval, c_scod, c_sbal, c_sbln, c_fmt, c_stop, c_iret, c_zret, c_nret, c_aret, c_vret, c_lret, c_cpy, c_callV, c_callS, tkA, lget, lput, lkill, jpush, vsz, jcat, lins, lent, List.length_cons, List.length_nil, List.replicate, List.append_nil, List.cons_append, List.nil_append, reduceIte, Nat.reduceAdd, Nat.reduceSub, Nat.reduceEqDiff, true_and, and_true, Nat.reduceLeDiff, Nat.lt_irrefl, Nat.succ_ne_self, forall_const, ne_eq, not_true_eq_false, not_false_eq_true, false_implies, implies_true, true_implies, true_or, or_true, or_false, false_or, eq_self, Int.reduceEq, Int.reduceLT, Int.reduceLE, Int.reduceNeg, Int.reduceToNat, Int.reduceAdd, Int.reduceSub, Int.reduceMul, Int.reduceNe, and_self]
      exact ⟨fun _ => hq τ hF hv hw, fun z => absurd z (by omega)⟩
    | succ m ih =>
      intro i s τ b w y hi hs hF hv hw hq
      refine h6 _ _ _ ?_
      have hsg := sg_in hT b
      have hsl := sidx_len (li := li) hli hsg
      simp only [w_RE_readItems_6, c_ic, c_lc, c_nul, c_il, c_ll, c_al, c_is, c_ls, c_as, c_inc, c_b2, c_b2n, c_b1, c_d2, c_d2n, c_dsh, c_i2l, c_l2i, c_lcm, c_dup, c_dup2, c_pop, c_j1, c_j2, c_jn, c_sw0, c_sw, c_gI, c_gL, c_gR, c_gS, c_pI, c_pZ, c_pL, c_pR, c_iald, c_ialg, c_iast, c_iasg, c_bald, c_bast, c_lald, c_last, c_aald, c_aals, c_aast, c_alen, c_bnd, c_str, c_bndl, c_bnln, c_sval, c_scod, c_sbal, c_sbln, c_fmt, c_stop, c_iret, c_zret, c_nret, c_aret, c_vret, c_lret, c_cpy, c_callV, c_callS, tkA, lget, lput, lkill, jpush, vsz, jcat, lins, lent, List.length_cons, List.length_nil, List.replicate, List.append_nil, List.cons_append, List.nil_append, reduceIte, Nat.reduceAdd, Nat.reduceSub, Nat.reduceEqDiff, true_and, and_true, Nat.reduceLeDiff, Nat.lt_irrefl, Nat.succ_ne_self, forall_const, ne_eq, not_true_eq_false, not_false_eq_true, false_implies, implies_true, true_implies, true_or, or_true, or_false, false_or, eq_self, Int.reduceEq, Int.reduceLT, Int.reduceLE, Int.reduceNeg, Int.reduceToNat, Int.reduceAdd, Int.reduceSub, Int.reduceMul, Int.reduceNe, and_self]
      refine ok_ST_length ?_
      simp only [c_ic, c_lc, c_nul, c_il, c_ll, c_al, c_is, c_ls, c_as, c_inc, c_b2, c_b2n, c_b1, c_d2, c_d2n, c_dsh, c_i2l, c_l2i, c_lcm, c_dup, c_dup2, c_pop, c_j1, c_j2, c_jn, c_sw0, c_sw, c_gI, c_gL, c_gR, c_gS, c_pI, c_pZ, c_pL, c_pR, c_iald, c_ialg, c_iast, c_iasg, c_bald, c_bast, c_lald, c_last, c_aald, c_aals, c_aast, c_alen, c_bnd, c_str, c_bndl, c_bnln, c_sval, c_scod, c_sbal, c_sbln, c_fmt, c_stop, c_iret, c_zret, c_nret, c_aret, c_vret, c_lret, c_cpy, c_callV, c_callS, tkA, lget, lput, lkill, jpush, vsz, jcat, lins, lent, List.length_cons, List.length_nil, List.replicate, List.append_nil, List.cons_append, List.nil_append, reduceIte, Nat.reduceAdd, Nat.reduceSub, Nat.reduceEqDiff, true_and, and_true, Nat.reduceLeDiff, Nat.lt_irrefl, Nat.succ_ne_self, forall_const, ne_eq, not_true_eq_false, not_false_eq_true, false_implies, implies_true, true_implies, true_or, or_true, or_false, false_or, eq_self, Int.reduceEq, Int.reduceLT, Int.reduceLE, Int.reduceNeg, Int.reduceToNat, Int.reduceAdd, Int.reduceSub, Int.reduceMul, Int.reduceNe, and_self]
      refine ⟨fun z => absurd z (by omega), fun _ => ?_⟩
      refine ok_TA_sign hv ?_
      simp only [c_ic, c_lc, c_nul, c_il, c_ll, c_al, c_is, c_ls, c_as, c_inc, c_b2, c_b2n, c_b1, c_d2, c_d2n, c_dsh, c_i2l, c_l2i, c_lcm, c_dup, c_dup2, c_pop, c_j1, c_j2, c_jn, c_sw0, c_sw, c_gI, c_gL, c_gR, c_gS, c_pI, c_pZ, c_pL, c_pR, c_iald, c_ialg, c_iast, c_iasg, c_bald, c_bast, c_lald, c_last, c_aald, c_aals, c_aast, c_alen, c_bnd, c_str, c_bndl, c_bnln, c_sval, c_scod, c_sbal, c_sbln, c_fmt, c_stop, c_iret, c_zret, c_nret, c_aret, c_vret, c_lret, c_cpy, c_callV, c_callS, tkA, lget, lput, lkill, jpush, vsz, jcat, lins, lent, List.length_cons, List.length_nil, List.replicate, List.append_nil, List.cons_append, List.nil_append, reduceIte, Nat.reduceAdd, Nat.reduceSub, Nat.reduceEqDiff, true_and, and_true, Nat.reduceLeDiff, Nat.lt_irrefl, Nat.succ_ne_self, forall_const, ne_eq, not_true_eq_false, not_false_eq_true, false_implies, implies_true, true_implies, true_or, or_true, or_false, false_or, eq_self, Int.reduceEq, Int.reduceLT, Int.reduceLE, Int.reduceNeg, Int.reduceToNat, Int.reduceAdd, Int.reduceSub, Int.reduceMul, Int.reduceNe, and_self]
      refine ok_TA_placeIn (by omega) hsg ?_
      unfold pItems at hq
      simp only [w_RE_readItems_58, c_ic, c_lc, c_nul, c_il, c_ll, c_al, c_is, c_ls, c_as, c_inc, c_b2, c_b2n, c_b1, c_d2, c_d2n, c_dsh, c_i2l, c_l2i, c_lcm, c_dup, c_dup2, c_pop, c_j1, c_j2, c_jn, c_sw0, c_sw, c_gI, c_gL, c_gR, c_gS, c_pI, c_pZ, c_pL, c_pR, c_iald, c_ialg, c_iast, c_iasg, c_bald, c_bast, c_lald, c_last, c_aald, c_aals, c_aast, c_alen, c_bnd, c_str, c_bndl, c_bnln, c_sval, c_scod, c_sbal, c_sbln, c_fmt, c_stop, c_iret, c_zret, c_nret, c_aret, c_vret, c_lret, c_cpy, c_callV, c_callS, tkA, lget, lput, lkill, jpush, vsz, jcat, lins, lent, List.length_cons, List.length_nil, List.replicate, List.append_nil, List.cons_append, List.nil_append, reduceIte, Nat.reduceAdd, Nat.reduceSub, Nat.reduceEqDiff, true_and, and_true, Nat.reduceLeDiff, Nat.lt_irrefl, Nat.succ_ne_self, forall_const, ne_eq, not_true_eq_false, not_false_eq_true, false_implies, implies_true, true_implies, true_or, or_true, or_false, false_or, eq_self, Int.reduceEq, Int.reduceLT, Int.reduceLE, Int.reduceNeg, Int.reduceToNat, Int.reduceAdd, Int.reduceSub, Int.reduceMul, Int.reduceNe, and_self, jln, hl2]
      refine ⟨fun z => ?_, fun z => ?_⟩
      · rw [if_pos (Or.inl z)] at hq
        exact hq τ hF hv hw
      · obtain ⟨g, hg⟩ := Int.eq_ofNat_of_zero_le (show 0 ≤ sidx li (sg T n b) by omega)
        rw [hg, Int.toNat_natCast] at hq
        rw [hg] at hsl ⊢
        have ha := sidx_lt (T := T) (n := n) (a := b) (i := li) (by omega)
        refine ⟨fun z2 => absurd z2 (by omega), fun _ => ⟨by decide, fun z2 => absurd z2 (by omega), fun _ => ?_⟩⟩
        rw [jbt (by omega) (by omega) (by omega), btn]
        refine ⟨fun z2 => ?_, fun z2 => ?_⟩
        · rw [if_neg (by omega)] at hq
          obtain ⟨sb1, sb2⟩ := sb s hs g (by omega) (by omega)
          simp only [w_RE_readItems_59, c_ic, c_lc, c_nul, c_il, c_ll, c_al, c_is, c_ls, c_as, c_inc, c_b2, c_b2n, c_b1, c_d2, c_d2n, c_dsh, c_i2l, c_l2i, c_lcm, c_dup, c_dup2, c_pop, c_j1, c_j2, c_jn, c_sw0, c_sw, c_gI, c_gL, c_gR, c_gS, c_pI, c_pZ, c_pL, c_pR, c_iald, c_ialg, c_iast, c_iasg, c_bald, c_bast, c_lald, c_last, c_aald, c_aals, c_aast, c_alen, c_bnd, c_str, c_bndl, c_bnln, c_sval, c_scod, c_sbal, c_sbln, c_fmt, c_stop, c_iret, c_zret, c_nret, c_aret, c_vret, c_lret, c_cpy, c_callV, c_callS, tkA, lget, lput, lkill, jpush, vsz, jcat, lins, lent, List.length_cons, List.length_nil, List.replicate, List.append_nil, List.cons_append, List.nil_append, reduceIte, Nat.reduceAdd, Nat.reduceSub, Nat.reduceEqDiff, true_and, and_true, Nat.reduceLeDiff, Nat.lt_irrefl, Nat.succ_ne_self, forall_const, ne_eq, not_true_eq_false, not_false_eq_true, false_implies, implies_true, true_implies, true_or, or_true, or_false, false_or, eq_self, Int.reduceEq, Int.reduceLT, Int.reduceLE, Int.reduceNeg, Int.reduceToNat, Int.reduceAdd, Int.reduceSub, Int.reduceMul, Int.reduceNe, and_self, sb1]
          refine ok_TA_pass hv ha ?_
          simp only [c_ic, c_lc, c_nul, c_il, c_ll, c_al, c_is, c_ls, c_as, c_inc, c_b2, c_b2n, c_b1, c_d2, c_d2n, c_dsh, c_i2l, c_l2i, c_lcm, c_dup, c_dup2, c_pop, c_j1, c_j2, c_jn, c_sw0, c_sw, c_gI, c_gL, c_gR, c_gS, c_pI, c_pZ, c_pL, c_pR, c_iald, c_ialg, c_iast, c_iasg, c_bald, c_bast, c_lald, c_last, c_aald, c_aals, c_aast, c_alen, c_bnd, c_str, c_bndl, c_bnln, c_sval, c_scod, c_sbal, c_sbln, c_fmt, c_stop, c_iret, c_zret, c_nret, c_aret, c_vret, c_lret, c_cpy, c_callV, c_callS, tkA, lget, lput, lkill, jpush, vsz, jcat, lins, lent, List.length_cons, List.length_nil, List.replicate, List.append_nil, List.cons_append, List.nil_append, reduceIte, Nat.reduceAdd, Nat.reduceSub, Nat.reduceEqDiff, true_and, and_true, Nat.reduceLeDiff, Nat.lt_irrefl, Nat.succ_ne_self, forall_const, ne_eq, not_true_eq_false, not_false_eq_true, false_implies, implies_true, true_implies, true_or, or_true, or_false, false_or, eq_self, Int.reduceEq, Int.reduceLT, Int.reduceLE, Int.reduceNeg, Int.reduceToNat, Int.reduceAdd, Int.reduceSub, Int.reduceMul, Int.reduceNe, and_self, Int.toNat_natCast, hl2]
          refine ⟨⟨by omega, by omega⟩, ?_⟩
          have hv1 : TV (tp τ (nb T n (b + 1)) (-1)) n T (nb T n (b + 1)) (-1) := TV_tp hv
          have hF1 : Fr (SRi r) σ (tp τ (nb T n (b + 1)) (-1)) := hF.tpm S2 S3
          refine ok_TA_number (dm := 2) hv1 (by decide) (by decide) ?_
          cases hn : numR T n 2 (jbnd li g) (nb T n (b + 1)) with
          | inl p =>
            rw [show nx T n b = nb T n (b + 1) from rfl, hn] at hq
            simp only [ff_1, c_ic, c_lc, c_nul, c_il, c_ll, c_al, c_is, c_ls, c_as, c_inc, c_b2, c_b2n, c_b1, c_d2, c_d2n, c_dsh, c_i2l, c_l2i, c_lcm, c_dup, c_dup2, c_pop, c_j1, c_j2, c_jn, c_sw0, c_sw, c_gI, c_gL, c_gR, c_gS, c_pI, c_pZ, c_pL, c_pR, c_iald, c_ialg, c_iast, c_iasg, c_bald, c_bast, c_lald, c_last, c_aald, c_aals, c_aast, c_alen, c_bnd, c_str, c_bndl, c_bnln, c_sval, c_scod, c_sbal, c_sbln, c_fmt, c_stop, c_iret, c_zret, c_nret, c_aret, c_vret, c_lret, c_cpy, c_callV, c_callS, tkA, lget, lput, lkill, jpush, vsz, jcat, lins, lent, List.length_cons, List.length_nil, List.replicate, List.append_nil, List.cons_append, List.nil_append, reduceIte, Nat.reduceAdd, Nat.reduceSub, Nat.reduceEqDiff, true_and, and_true, Nat.reduceLeDiff, Nat.lt_irrefl, Nat.succ_ne_self, forall_const, ne_eq, not_true_eq_false, not_false_eq_true, false_implies, implies_true, true_implies, true_or, or_true, or_false, false_or, eq_self, Int.reduceEq, Int.reduceLT, Int.reduceLE, Int.reduceNeg, Int.reduceToNat, Int.reduceAdd, Int.reduceSub, Int.reduceMul, Int.reduceNe, and_self, Int.toNat_natCast, inc_nat (show i ≤ 100000 by omega)]
            refine ⟨⟨by omega, by omega⟩, ?_⟩
            exact bad _ p (i + 1) _ _ (by omega) ((hF1.tpm S2 S3).sI (S33 _)) ((TV_tp hv1).si (by decide)) hq
          | inr q =>
            rw [show nx T n b = nb T n (b + 1) from rfl, hn] at hq
            simp only [c_ic, c_lc, c_nul, c_il, c_ll, c_al, c_is, c_ls, c_as, c_inc, c_b2, c_b2n, c_b1, c_d2, c_d2n, c_dsh, c_i2l, c_l2i, c_lcm, c_dup, c_dup2, c_pop, c_j1, c_j2, c_jn, c_sw0, c_sw, c_gI, c_gL, c_gR, c_gS, c_pI, c_pZ, c_pL, c_pR, c_iald, c_ialg, c_iast, c_iasg, c_bald, c_bast, c_lald, c_last, c_aald, c_aals, c_aast, c_alen, c_bnd, c_str, c_bndl, c_bnln, c_sval, c_scod, c_sbal, c_sbln, c_fmt, c_stop, c_iret, c_zret, c_nret, c_aret, c_vret, c_lret, c_cpy, c_callV, c_callS, tkA, lget, lput, lkill, jpush, vsz, jcat, lins, lent, List.length_cons, List.length_nil, List.replicate, List.append_nil, List.cons_append, List.nil_append, reduceIte, Nat.reduceAdd, Nat.reduceSub, Nat.reduceEqDiff, true_and, and_true, Nat.reduceLeDiff, Nat.lt_irrefl, Nat.succ_ne_self, forall_const, ne_eq, not_true_eq_false, not_false_eq_true, false_implies, implies_true, true_implies, true_or, or_true, or_false, false_or, eq_self, Int.reduceEq, Int.reduceLT, Int.reduceLE, Int.reduceNeg, Int.reduceToNat, Int.reduceAdd, Int.reduceSub, Int.reduceMul, Int.reduceNe, and_self, Int.toNat_natCast, inc_nat (show i ≤ 100000 by omega)]
            refine ⟨⟨by omega, by omega⟩, ?_⟩
            refine ih (i + 1) (s + 2 ^ g) _ q.1 (up w g q.2) _ (by omega) sb2 ((hF1.tpm S2 S3).sI (S33 _)) ((TV_tp hv1).si (by decide)) (fun o ho => ?_) hq
            simp only [g_sI, true_and, up_at, tp, Nat.reduceEqDiff, false_and, if_false]
            split
            · rfl
            · exact hw o ho
        · rw [if_pos (Or.inr (by omega))] at hq
          exact hq τ hF hv hw
  simp only [w_RE_readItems_0, c_ic, c_lc, c_nul, c_il, c_ll, c_al, c_is, c_ls, c_as, c_inc, c_b2, c_b2n, c_b1, c_d2, c_d2n, c_dsh, c_i2l, c_l2i, c_lcm, c_dup, c_dup2, c_pop, c_j1, c_j2, c_jn, c_sw0, c_sw, c_gI, c_gL, c_gR, c_gS, c_pI, c_pZ, c_pL, c_pR, c_iald, c_ialg, c_iast, c_iasg, c_bald, c_bast, c_lald, c_last, c_aald, c_aals, c_aast, c_alen, c_bnd, c_str, c_bndl, c_bnln, c_sval, c_scod, c_sbal, c_sbln, c_fmt, c_stop, c_iret, c_zret, c_nret, c_aret, c_vret, c_lret, c_cpy, c_callV, c_callS, tkA, lget, lput, lkill, jpush, vsz, jcat, lins, lent, List.length_cons, List.length_nil, List.replicate, List.append_nil, List.cons_append, List.nil_append, reduceIte, Nat.reduceAdd, Nat.reduceSub, Nat.reduceEqDiff, true_and, and_true, Nat.reduceLeDiff, Nat.lt_irrefl, Nat.succ_ne_self, forall_const, ne_eq, not_true_eq_false, not_false_eq_true, false_implies, implies_true, true_implies, true_or, or_true, or_false, false_or, eq_self, Int.reduceEq, Int.reduceLT, Int.reduceLE, Int.reduceNeg, Int.reduceToNat, Int.reduceAdd, Int.reduceSub, Int.reduceMul, Int.reduceNe, and_self]
  exact key (slen li) 0 0 σ a v none (Nat.zero_add _) (by decide) Fr.rf hv hit h
section RDS
variable {σ : jM} {Φ : jPh} {d n a r : Nat} {T : Nat → Int} {s : RS}
theorem si4 {σ : jM} {r li : Nat} {a b c e : Int} (h : a = dfl li 0 ∧ b = dfl li 1 ∧ c = dfl li 2 ∧ e = dfl li 3) : ∀ o, o < 4 → (sI (sI (sI (sI σ 33 r 0 a) 33 r 1 b) 33 r 2 c) 33 r 3 e).1 33 r o = dfl li o := by
  intro o ho
  obtain ⟨rfl, rfl, rfl, rfl⟩ := h
  simp only [g_sI, true_and]
  rcases (show o = 0 ∨ o = 1 ∨ o = 2 ∨ o = 3 by omega) with rfl | rfl | rfl | rfl <;> simp
theorem si4F {σ : jM} {r : Nat} {a b c e : Int} : Fr (SRi r) σ (sI (sI (sI (sI σ 33 r 0 a) 33 r 1 b) 33 r 2 c) 33 r 3 e) := (((Fr.rf.sI (Or.inr ⟨rfl, rfl⟩)).sI (Or.inr ⟨rfl, rfl⟩)).sI (Or.inr ⟨rfl, rfl⟩)).sI (Or.inr ⟨rfl, rfl⟩)
theorem si4T {σ : jM} {r n k : Nat} {T : Nat → Int} {a b c e f : Int} (h : TV σ n T k f) : TV (sI (sI (sI (sI σ 33 r 0 a) 33 r 1 b) 33 r 2 c) 33 r 3 e) n T k f := (((h.si (by decide)).si (by decide)).si (by decide)).si (by decide)
theorem ok_RE_readRules (hT : sgs n T) (hv : TV σ n T a (-1)) (hr : RV σ r s) (h : ItP (fun p => ∀ τ, Fr (SRe r) σ τ → TV τ n T n p → RB τ r → Φ none τ) (fun b w => ∀ τ, Fr (SRe r) σ τ → TV τ n T b (-1) → RV τ r (true, s.2.1, s.2.2.1, w, s.2.2.2.2.1, s.2.2.2.2.2) → Φ none τ) (pItems T n 0 (jbnd 0) 2 a 0 (dfl 0))) : Ct (d + 7) M_RE_readRules [rf 5 r, rf 7 0] σ Φ := by
  refine i_RE_readRules (Nat.le_refl 2) ?_
  simp only [w_RE_readRules_0, c_ic, c_lc, c_nul, c_il, c_ll, c_al, c_is, c_ls, c_as, c_inc, c_b2, c_b2n, c_b1, c_d2, c_d2n, c_dsh, c_i2l, c_l2i, c_lcm, c_dup, c_dup2, c_pop, c_j1, c_j2, c_jn, c_sw0, c_sw, c_gI, c_gL, c_gR, c_gS, c_pI, c_pZ, c_pL, c_pR, c_iald, c_ialg, c_iast, c_iasg, c_bald, c_bast, c_lald, c_last, c_aald, c_aals, c_aast, c_alen, c_bnd, c_str, c_bndl, c_bnln, c_sval, c_scod, c_sbal, c_sbln, c_fmt, c_stop, c_iret, c_zret, c_nret, c_aret, c_vret, c_lret, c_cpy, c_callV, c_callS, tkA, lget, lput, lkill, jpush, vsz, jcat, lins, lent, List.length_cons, List.length_nil, List.replicate, List.append_nil, List.cons_append, List.nil_append, reduceIte, Nat.reduceAdd, Nat.reduceSub, Nat.reduceEqDiff, true_and, and_true, Nat.reduceLeDiff, Nat.lt_irrefl, Nat.succ_ne_self, forall_const, ne_eq, not_true_eq_false, not_false_eq_true, false_implies, implies_true, true_implies, true_or, or_true, or_false, false_or, eq_self, Int.reduceEq, Int.reduceLT, Int.reduceLE, Int.reduceNeg, Int.reduceToNat, Int.reduceAdd, Int.reduceSub, Int.reduceMul, Int.reduceNe, and_self]
  refine ok_RE_setItems ?_
  simp only [c_ic, c_lc, c_nul, c_il, c_ll, c_al, c_is, c_ls, c_as, c_inc, c_b2, c_b2n, c_b1, c_d2, c_d2n, c_dsh, c_i2l, c_l2i, c_lcm, c_dup, c_dup2, c_pop, c_j1, c_j2, c_jn, c_sw0, c_sw, c_gI, c_gL, c_gR, c_gS, c_pI, c_pZ, c_pL, c_pR, c_iald, c_ialg, c_iast, c_iasg, c_bald, c_bast, c_lald, c_last, c_aald, c_aals, c_aast, c_alen, c_bnd, c_str, c_bndl, c_bnln, c_sval, c_scod, c_sbal, c_sbln, c_fmt, c_stop, c_iret, c_zret, c_nret, c_aret, c_vret, c_lret, c_cpy, c_callV, c_callS, tkA, lget, lput, lkill, jpush, vsz, jcat, lins, lent, List.length_cons, List.length_nil, List.replicate, List.append_nil, List.cons_append, List.nil_append, reduceIte, Nat.reduceAdd, Nat.reduceSub, Nat.reduceEqDiff, true_and, and_true, Nat.reduceLeDiff, Nat.lt_irrefl, Nat.succ_ne_self, forall_const, ne_eq, not_true_eq_false, not_false_eq_true, false_implies, implies_true, true_implies, true_or, or_true, or_false, false_or, eq_self, Int.reduceEq, Int.reduceLT, Int.reduceLE, Int.reduceNeg, Int.reduceToNat, Int.reduceAdd, Int.reduceSub, Int.reduceMul, Int.reduceNe, and_self]
  refine ok_RE_readItems (li := 0) (v := dfl 0) (by decide) hT (si4T hv) (si4 ⟨rfl, rfl, rfl, rfl⟩) ?_
  rw [show slen 0 = 2 by decide]
  have S5 : ∀ o, 8 ≤ o → o ≤ 12 → SRe r 5 r o := fun o h1 h2 => Or.inr ⟨rfl, Or.inl ⟨rfl, h1, h2⟩⟩
  cases hq : pItems T n 0 (jbnd 0) 2 a 0 (dfl 0) with
  | inl p =>
    rw [hq] at h
    intro τ t1 t2
    have t3 := si4F.tr t1
    have hb := hr.b.i t3
    simp only [c_ic, c_lc, c_nul, c_il, c_ll, c_al, c_is, c_ls, c_as, c_inc, c_b2, c_b2n, c_b1, c_d2, c_d2n, c_dsh, c_i2l, c_l2i, c_lcm, c_dup, c_dup2, c_pop, c_j1, c_j2, c_jn, c_sw0, c_sw, c_gI, c_gL, c_gR, c_gS, c_pI, c_pZ, c_pL, c_pR, c_iald, c_ialg, c_iast, c_iasg, c_bald, c_bast, c_lald, c_last, c_aald, c_aals, c_aast, c_alen, c_bnd, c_str, c_bndl, c_bnln, c_sval, c_scod, c_sbal, c_sbln, c_fmt, c_stop, c_iret, c_zret, c_nret, c_aret, c_vret, c_lret, c_cpy, c_callV, c_callS, tkA, lget, lput, lkill, jpush, vsz, jcat, lins, lent, List.length_cons, List.length_nil, List.replicate, List.append_nil, List.cons_append, List.nil_append, reduceIte, Nat.reduceAdd, Nat.reduceSub, Nat.reduceEqDiff, true_and, and_true, Nat.reduceLeDiff, Nat.lt_irrefl, Nat.succ_ne_self, forall_const, ne_eq, not_true_eq_false, not_false_eq_true, false_implies, implies_true, true_implies, true_or, or_true, or_false, false_or, eq_self, Int.reduceEq, Int.reduceLT, Int.reduceLE, Int.reduceNeg, Int.reduceToNat, Int.reduceAdd, Int.reduceSub, Int.reduceMul, Int.reduceNe, and_self]
    refine ⟨by decide, by decide, ?_⟩
    exact h _ ((((t3.wk (fun _ _ _ q => q.e)).sI (S5 11 (by decide) (by decide))).sI (S5 12 (by decide) (by decide))).sI (S5 10 (by decide) (by decide))) (((t2.si (by decide)).si (by decide)).si (by decide)) (by unfold RB; simp only [g_sI, Nat.reduceEqDiff, and_false, if_false]; exact hb)
  | inr q =>
    rw [hq] at h
    intro τ t1 t2 t3
    have t4 := si4F.tr t1
    obtain ⟨h1, h2, h3, h4, h5, h6, h7, h8, h9⟩ := hr.i t4
    simp only [c_ic, c_lc, c_nul, c_il, c_ll, c_al, c_is, c_ls, c_as, c_inc, c_b2, c_b2n, c_b1, c_d2, c_d2n, c_dsh, c_i2l, c_l2i, c_lcm, c_dup, c_dup2, c_pop, c_j1, c_j2, c_jn, c_sw0, c_sw, c_gI, c_gL, c_gR, c_gS, c_pI, c_pZ, c_pL, c_pR, c_iald, c_ialg, c_iast, c_iasg, c_bald, c_bast, c_lald, c_last, c_aald, c_aals, c_aast, c_alen, c_bnd, c_str, c_bndl, c_bnln, c_sval, c_scod, c_sbal, c_sbln, c_fmt, c_stop, c_iret, c_zret, c_nret, c_aret, c_vret, c_lret, c_cpy, c_callV, c_callS, tkA, lget, lput, lkill, jpush, vsz, jcat, lins, lent, List.length_cons, List.length_nil, List.replicate, List.append_nil, List.cons_append, List.nil_append, reduceIte, Nat.reduceAdd, Nat.reduceSub, Nat.reduceEqDiff, true_and, and_true, Nat.reduceLeDiff, Nat.lt_irrefl, Nat.succ_ne_self, forall_const, ne_eq, not_true_eq_false, not_false_eq_true, false_implies, implies_true, true_implies, true_or, or_true, or_false, false_or, eq_self, Int.reduceEq, Int.reduceLT, Int.reduceLE, Int.reduceNeg, Int.reduceToNat, Int.reduceAdd, Int.reduceSub, Int.reduceMul, Int.reduceNe, and_self]
    refine ⟨by decide, by decide, ?_⟩
    refine h _ ((((t4.wk (fun _ _ _ q => q.e)).sI (S5 11 (by decide) (by decide))).sI (S5 12 (by decide) (by decide))).sI (S5 10 (by decide) (by decide))) (((t2.si (by decide)).si (by decide)).si (by decide)) ?_
    refine ⟨h1, h2, (by simp only [g_sI, Nat.reduceEqDiff, and_false, false_and, if_false, and_self, if_true]; exact h3), (by simp only [g_sI, Nat.reduceEqDiff, and_false, false_and, if_false, and_self, if_true]; exact h4), (by simp only [g_sI, and_self, if_true]), ?_, ?_, fun k hk => h8 k hk, fun f hf => h9 f hf⟩
    · simp only [g_sI, Nat.reduceEqDiff, and_false, false_and, if_false, and_self, if_true]
      exact t3 0 (by decide)
    · simp only [g_sI, Nat.reduceEqDiff, and_false, false_and, if_false, and_self, if_true]
      exact t3 1 (by decide)
theorem ok_RE_readKingdom (hT : sgs n T) (hv : TV σ n T a (-1)) (hr : RV σ r s) (hK : s.2.1 < 4) (h : ItP (fun p => ∀ τ, Fr (SRe r) σ τ → TV τ n T n p → RB τ r → Φ none τ) (fun b w => ∀ τ, Fr (SRe r) σ τ → TV τ n T b (-1) → RV τ r (s.1, s.2.1 + 1, s.2.2.1, s.2.2.2.1, cpS w s.2.2.2.2.1 (3 * s.2.1) 3, s.2.2.2.2.2) → Φ none τ) (pItems T n 1 (jbnd 1) 3 a 0 (dfl 1))) : Ct (d + 7) M_RE_readKingdom [rf 5 r, rf 7 0] σ Φ := by
  refine i_RE_readKingdom (Nat.le_refl 2) ?_
  simp only [w_RE_readKingdom_0, c_ic, c_lc, c_nul, c_il, c_ll, c_al, c_is, c_ls, c_as, c_inc, c_b2, c_b2n, c_b1, c_d2, c_d2n, c_dsh, c_i2l, c_l2i, c_lcm, c_dup, c_dup2, c_pop, c_j1, c_j2, c_jn, c_sw0, c_sw, c_gI, c_gL, c_gR, c_gS, c_pI, c_pZ, c_pL, c_pR, c_iald, c_ialg, c_iast, c_iasg, c_bald, c_bast, c_lald, c_last, c_aald, c_aals, c_aast, c_alen, c_bnd, c_str, c_bndl, c_bnln, c_sval, c_scod, c_sbal, c_sbln, c_fmt, c_stop, c_iret, c_zret, c_nret, c_aret, c_vret, c_lret, c_cpy, c_callV, c_callS, tkA, lget, lput, lkill, jpush, vsz, jcat, lins, lent, List.length_cons, List.length_nil, List.replicate, List.append_nil, List.cons_append, List.nil_append, reduceIte, Nat.reduceAdd, Nat.reduceSub, Nat.reduceEqDiff, true_and, and_true, Nat.reduceLeDiff, Nat.lt_irrefl, Nat.succ_ne_self, forall_const, ne_eq, not_true_eq_false, not_false_eq_true, false_implies, implies_true, true_implies, true_or, or_true, or_false, false_or, eq_self, Int.reduceEq, Int.reduceLT, Int.reduceLE, Int.reduceNeg, Int.reduceToNat, Int.reduceAdd, Int.reduceSub, Int.reduceMul, Int.reduceNe, and_self]
  refine ok_RE_setItems ?_
  simp only [c_ic, c_lc, c_nul, c_il, c_ll, c_al, c_is, c_ls, c_as, c_inc, c_b2, c_b2n, c_b1, c_d2, c_d2n, c_dsh, c_i2l, c_l2i, c_lcm, c_dup, c_dup2, c_pop, c_j1, c_j2, c_jn, c_sw0, c_sw, c_gI, c_gL, c_gR, c_gS, c_pI, c_pZ, c_pL, c_pR, c_iald, c_ialg, c_iast, c_iasg, c_bald, c_bast, c_lald, c_last, c_aald, c_aals, c_aast, c_alen, c_bnd, c_str, c_bndl, c_bnln, c_sval, c_scod, c_sbal, c_sbln, c_fmt, c_stop, c_iret, c_zret, c_nret, c_aret, c_vret, c_lret, c_cpy, c_callV, c_callS, tkA, lget, lput, lkill, jpush, vsz, jcat, lins, lent, List.length_cons, List.length_nil, List.replicate, List.append_nil, List.cons_append, List.nil_append, reduceIte, Nat.reduceAdd, Nat.reduceSub, Nat.reduceEqDiff, true_and, and_true, Nat.reduceLeDiff, Nat.lt_irrefl, Nat.succ_ne_self, forall_const, ne_eq, not_true_eq_false, not_false_eq_true, false_implies, implies_true, true_implies, true_or, or_true, or_false, false_or, eq_self, Int.reduceEq, Int.reduceLT, Int.reduceLE, Int.reduceNeg, Int.reduceToNat, Int.reduceAdd, Int.reduceSub, Int.reduceMul, Int.reduceNe, and_self]
  refine ok_RE_readItems (li := 1) (v := dfl 1) (by decide) hT (si4T hv) (si4 ⟨rfl, rfl, rfl, rfl⟩) ?_
  rw [show slen 1 = 3 by decide]
  have S5 : ∀ o, 8 ≤ o → o ≤ 12 → SRe r 5 r o := fun o h1 h2 => Or.inr ⟨rfl, Or.inl ⟨rfl, h1, h2⟩⟩
  have Sr : ∀ k o, 26 ≤ k → k ≤ 33 → SRe r k r o := fun k o h1 h2 => Or.inr ⟨rfl, Or.inr ⟨h1, h2⟩⟩
  cases hq : pItems T n 1 (jbnd 1) 3 a 0 (dfl 1) with
  | inl p =>
    rw [hq] at h
    intro τ t1 t2
    have t3 := si4F.tr t1
    obtain ⟨h1, h2, h3, h4, -⟩ := hr.i t3
    simp only [c_ic, c_lc, c_nul, c_il, c_ll, c_al, c_is, c_ls, c_as, c_inc, c_b2, c_b2n, c_b1, c_d2, c_d2n, c_dsh, c_i2l, c_l2i, c_lcm, c_dup, c_dup2, c_pop, c_j1, c_j2, c_jn, c_sw0, c_sw, c_gI, c_gL, c_gR, c_gS, c_pI, c_pZ, c_pL, c_pR, c_iald, c_ialg, c_iast, c_iasg, c_bald, c_bast, c_lald, c_last, c_aald, c_aals, c_aast, c_alen, c_bnd, c_str, c_bndl, c_bnln, c_sval, c_scod, c_sbal, c_sbln, c_fmt, c_stop, c_iret, c_zret, c_nret, c_aret, c_vret, c_lret, c_cpy, c_callV, c_callS, tkA, lget, lput, lkill, jpush, vsz, jcat, lins, lent, List.length_cons, List.length_nil, List.replicate, List.append_nil, List.cons_append, List.nil_append, reduceIte, Nat.reduceAdd, Nat.reduceSub, Nat.reduceEqDiff, true_and, and_true, Nat.reduceLeDiff, Nat.lt_irrefl, Nat.succ_ne_self, forall_const, ne_eq, not_true_eq_false, not_false_eq_true, false_implies, implies_true, true_implies, true_or, or_true, or_false, false_or, eq_self, Int.reduceEq, Int.reduceLT, Int.reduceLE, Int.reduceNeg, Int.reduceToNat, Int.reduceAdd, Int.reduceSub, Int.reduceMul, Int.reduceNe, and_self, h3, Int.toNat_natCast, g_sI, Nat.reduceEqDiff, false_and, if_false]
    rw [wr_id (by omega) (by omega)]
    refine ⟨by decide, ⟨by omega, by omega⟩, by decide, ⟨by omega, by omega⟩, by decide, ⟨by omega, by omega⟩, ?_⟩
    refine h _ (((((t3.wk (fun _ _ _ q => q.e)).sI (Sr 26 _ (by decide) (by decide))).sI (Sr 27 _ (by decide) (by decide))).sI (Sr 28 _ (by decide) (by decide))).sI (S5 8 (by decide) (by decide))) ((((t2.si (by decide)).si (by decide)).si (by decide)).si (by decide)) ?_
    refine ⟨?_, ?_⟩
    · simp only [g_sI, and_self, if_true]; omega
    · simp only [g_sI, Nat.reduceEqDiff, and_false, false_and, if_false]; omega
  | inr q =>
    rw [hq] at h
    intro τ t1 t2 t3
    have t4 := si4F.tr t1
    obtain ⟨h1, h2, h3, h4, h5, h6, h7, h8, h9⟩ := hr.i t4
    simp only [c_ic, c_lc, c_nul, c_il, c_ll, c_al, c_is, c_ls, c_as, c_inc, c_b2, c_b2n, c_b1, c_d2, c_d2n, c_dsh, c_i2l, c_l2i, c_lcm, c_dup, c_dup2, c_pop, c_j1, c_j2, c_jn, c_sw0, c_sw, c_gI, c_gL, c_gR, c_gS, c_pI, c_pZ, c_pL, c_pR, c_iald, c_ialg, c_iast, c_iasg, c_bald, c_bast, c_lald, c_last, c_aald, c_aals, c_aast, c_alen, c_bnd, c_str, c_bndl, c_bnln, c_sval, c_scod, c_sbal, c_sbln, c_fmt, c_stop, c_iret, c_zret, c_nret, c_aret, c_vret, c_lret, c_cpy, c_callV, c_callS, tkA, lget, lput, lkill, jpush, vsz, jcat, lins, lent, List.length_cons, List.length_nil, List.replicate, List.append_nil, List.cons_append, List.nil_append, reduceIte, Nat.reduceAdd, Nat.reduceSub, Nat.reduceEqDiff, true_and, and_true, Nat.reduceLeDiff, Nat.lt_irrefl, Nat.succ_ne_self, forall_const, ne_eq, not_true_eq_false, not_false_eq_true, false_implies, implies_true, true_implies, true_or, or_true, or_false, false_or, eq_self, Int.reduceEq, Int.reduceLT, Int.reduceLE, Int.reduceNeg, Int.reduceToNat, Int.reduceAdd, Int.reduceSub, Int.reduceMul, Int.reduceNe, and_self, h3, Int.toNat_natCast, g_sI, Nat.reduceEqDiff, false_and, if_false]
    rw [wr_id (by omega) (by omega)]
    refine ⟨by decide, ⟨by omega, by omega⟩, by decide, ⟨by omega, by omega⟩, by decide, ⟨by omega, by omega⟩, ?_⟩
    refine h _ (((((t4.wk (fun _ _ _ q => q.e)).sI (Sr 26 _ (by decide) (by decide))).sI (Sr 27 _ (by decide) (by decide))).sI (Sr 28 _ (by decide) (by decide))).sI (S5 8 (by decide) (by decide))) ((((t2.si (by decide)).si (by decide)).si (by decide)).si (by decide)) ?_
    refine ⟨by show s.2.1 + 1 ≤ 4; omega, h2, ?_, (by simp only [g_sI, Nat.reduceEqDiff, and_false, false_and, if_false, and_self, if_true]; exact h4), (by simp only [g_sI, Nat.reduceEqDiff, and_false, false_and, if_false, and_self, if_true]; exact h5), (by simp only [g_sI, Nat.reduceEqDiff, and_false, false_and, if_false, and_self, if_true]; exact h6), (by simp only [g_sI, Nat.reduceEqDiff, and_false, false_and, if_false, and_self, if_true]; exact h7), fun k hk => ?_, fun f hf => h9 f hf⟩
    · simp only [g_sI, and_self, if_true]; omega
    · have hk : k < s.2.1 + 1 := hk
      simp only [g_sI, Nat.reduceEqDiff, false_and, if_false, true_and]
      by_cases z : k = s.2.1
      · rw [if_pos z, if_pos z, if_pos z, z, cp_in (p := 1) (by decide), cp_in (p := 2) (by decide)]
        have := cp_in (s := q.2) (g := s.2.2.2.2.1) (c0 := 3 * s.2.1) (q := 3) (p := 0) (by decide)
        rw [Nat.add_zero] at this
        rw [this]
        exact ⟨t3 0 (by decide), t3 1 (by decide), t3 2 (by decide)⟩
      · rw [if_neg z, if_neg z, if_neg z, cp_out (by omega), cp_out (by omega), cp_out (by omega)]
        exact h8 k (by omega)
theorem ok_RE_readField (hT : sgs n T) (hv : TV σ n T a (-1)) (hr : RV σ r s) (hK : s.2.2.1 < 8) (h : ItP (fun p => ∀ τ, Fr (SRe r) σ τ → TV τ n T n p → RB τ r → Φ none τ) (fun b w => ∀ τ, Fr (SRe r) σ τ → TV τ n T b (-1) → RV τ r (s.1, s.2.1, s.2.2.1 + 1, s.2.2.2.1, s.2.2.2.2.1, cpS w s.2.2.2.2.2 (4 * s.2.2.1) 4) → Φ none τ) (pItems T n 2 (jbnd 2) 4 a 0 (dfl 2))) : Ct (d + 7) M_RE_readField [rf 5 r, rf 7 0] σ Φ := by
  refine i_RE_readField (Nat.le_refl 2) ?_
  simp only [w_RE_readField_0, c_ic, c_lc, c_nul, c_il, c_ll, c_al, c_is, c_ls, c_as, c_inc, c_b2, c_b2n, c_b1, c_d2, c_d2n, c_dsh, c_i2l, c_l2i, c_lcm, c_dup, c_dup2, c_pop, c_j1, c_j2, c_jn, c_sw0, c_sw, c_gI, c_gL, c_gR, c_gS, c_pI, c_pZ, c_pL, c_pR, c_iald, c_ialg, c_iast, c_iasg, c_bald, c_bast, c_lald, c_last, c_aald, c_aals, c_aast, c_alen, c_bnd, c_str, c_bndl, c_bnln, c_sval, c_scod, c_sbal, c_sbln, c_fmt, c_stop, c_iret, c_zret, c_nret, c_aret, c_vret, c_lret, c_cpy, c_callV, c_callS, tkA, lget, lput, lkill, jpush, vsz, jcat, lins, lent, List.length_cons, List.length_nil, List.replicate, List.append_nil, List.cons_append, List.nil_append, reduceIte, Nat.reduceAdd, Nat.reduceSub, Nat.reduceEqDiff, true_and, and_true, Nat.reduceLeDiff, Nat.lt_irrefl, Nat.succ_ne_self, forall_const, ne_eq, not_true_eq_false, not_false_eq_true, false_implies, implies_true, true_implies, true_or, or_true, or_false, false_or, eq_self, Int.reduceEq, Int.reduceLT, Int.reduceLE, Int.reduceNeg, Int.reduceToNat, Int.reduceAdd, Int.reduceSub, Int.reduceMul, Int.reduceNe, and_self]
  refine ok_RE_setItems ?_
  simp only [c_ic, c_lc, c_nul, c_il, c_ll, c_al, c_is, c_ls, c_as, c_inc, c_b2, c_b2n, c_b1, c_d2, c_d2n, c_dsh, c_i2l, c_l2i, c_lcm, c_dup, c_dup2, c_pop, c_j1, c_j2, c_jn, c_sw0, c_sw, c_gI, c_gL, c_gR, c_gS, c_pI, c_pZ, c_pL, c_pR, c_iald, c_ialg, c_iast, c_iasg, c_bald, c_bast, c_lald, c_last, c_aald, c_aals, c_aast, c_alen, c_bnd, c_str, c_bndl, c_bnln, c_sval, c_scod, c_sbal, c_sbln, c_fmt, c_stop, c_iret, c_zret, c_nret, c_aret, c_vret, c_lret, c_cpy, c_callV, c_callS, tkA, lget, lput, lkill, jpush, vsz, jcat, lins, lent, List.length_cons, List.length_nil, List.replicate, List.append_nil, List.cons_append, List.nil_append, reduceIte, Nat.reduceAdd, Nat.reduceSub, Nat.reduceEqDiff, true_and, and_true, Nat.reduceLeDiff, Nat.lt_irrefl, Nat.succ_ne_self, forall_const, ne_eq, not_true_eq_false, not_false_eq_true, false_implies, implies_true, true_implies, true_or, or_true, or_false, false_or, eq_self, Int.reduceEq, Int.reduceLT, Int.reduceLE, Int.reduceNeg, Int.reduceToNat, Int.reduceAdd, Int.reduceSub, Int.reduceMul, Int.reduceNe, and_self]
  refine ok_RE_readItems (li := 2) (v := dfl 2) (by decide) hT (si4T hv) (si4 ⟨rfl, rfl, rfl, rfl⟩) ?_
  rw [show slen 2 = 4 by decide]
  have S5 : ∀ o, 8 ≤ o → o ≤ 12 → SRe r 5 r o := fun o h1 h2 => Or.inr ⟨rfl, Or.inl ⟨rfl, h1, h2⟩⟩
  have Sr : ∀ k o, 26 ≤ k → k ≤ 33 → SRe r k r o := fun k o h1 h2 => Or.inr ⟨rfl, Or.inr ⟨h1, h2⟩⟩
  cases hq : pItems T n 2 (jbnd 2) 4 a 0 (dfl 2) with
  | inl p =>
    rw [hq] at h
    intro τ t1 t2
    have t3 := si4F.tr t1
    obtain ⟨h1, h2, h3, h4, -⟩ := hr.i t3
    simp only [c_ic, c_lc, c_nul, c_il, c_ll, c_al, c_is, c_ls, c_as, c_inc, c_b2, c_b2n, c_b1, c_d2, c_d2n, c_dsh, c_i2l, c_l2i, c_lcm, c_dup, c_dup2, c_pop, c_j1, c_j2, c_jn, c_sw0, c_sw, c_gI, c_gL, c_gR, c_gS, c_pI, c_pZ, c_pL, c_pR, c_iald, c_ialg, c_iast, c_iasg, c_bald, c_bast, c_lald, c_last, c_aald, c_aals, c_aast, c_alen, c_bnd, c_str, c_bndl, c_bnln, c_sval, c_scod, c_sbal, c_sbln, c_fmt, c_stop, c_iret, c_zret, c_nret, c_aret, c_vret, c_lret, c_cpy, c_callV, c_callS, tkA, lget, lput, lkill, jpush, vsz, jcat, lins, lent, List.length_cons, List.length_nil, List.replicate, List.append_nil, List.cons_append, List.nil_append, reduceIte, Nat.reduceAdd, Nat.reduceSub, Nat.reduceEqDiff, true_and, and_true, Nat.reduceLeDiff, Nat.lt_irrefl, Nat.succ_ne_self, forall_const, ne_eq, not_true_eq_false, not_false_eq_true, false_implies, implies_true, true_implies, true_or, or_true, or_false, false_or, eq_self, Int.reduceEq, Int.reduceLT, Int.reduceLE, Int.reduceNeg, Int.reduceToNat, Int.reduceAdd, Int.reduceSub, Int.reduceMul, Int.reduceNe, and_self, h4, Int.toNat_natCast, g_sI, Nat.reduceEqDiff, false_and, if_false]
    rw [wr_id (by omega) (by omega)]
    refine ⟨by decide, ⟨by omega, by omega⟩, by decide, ⟨by omega, by omega⟩, by decide, ⟨by omega, by omega⟩, by decide, ⟨by omega, by omega⟩, ?_⟩
    refine h _ ((((((t3.wk (fun _ _ _ q => q.e)).sI (Sr 29 _ (by decide) (by decide))).sI (Sr 30 _ (by decide) (by decide))).sI (Sr 31 _ (by decide) (by decide))).sI (Sr 32 _ (by decide) (by decide))).sI (S5 9 (by decide) (by decide))) (((((t2.si (by decide)).si (by decide)).si (by decide)).si (by decide)).si (by decide)) ?_
    refine ⟨?_, ?_⟩
    · simp only [g_sI, Nat.reduceEqDiff, and_false, false_and, if_false]; omega
    · simp only [g_sI, and_self, if_true]; omega
  | inr q =>
    rw [hq] at h
    intro τ t1 t2 t3
    have t4 := si4F.tr t1
    obtain ⟨h1, h2, h3, h4, h5, h6, h7, h8, h9⟩ := hr.i t4
    simp only [c_ic, c_lc, c_nul, c_il, c_ll, c_al, c_is, c_ls, c_as, c_inc, c_b2, c_b2n, c_b1, c_d2, c_d2n, c_dsh, c_i2l, c_l2i, c_lcm, c_dup, c_dup2, c_pop, c_j1, c_j2, c_jn, c_sw0, c_sw, c_gI, c_gL, c_gR, c_gS, c_pI, c_pZ, c_pL, c_pR, c_iald, c_ialg, c_iast, c_iasg, c_bald, c_bast, c_lald, c_last, c_aald, c_aals, c_aast, c_alen, c_bnd, c_str, c_bndl, c_bnln, c_sval, c_scod, c_sbal, c_sbln, c_fmt, c_stop, c_iret, c_zret, c_nret, c_aret, c_vret, c_lret, c_cpy, c_callV, c_callS, tkA, lget, lput, lkill, jpush, vsz, jcat, lins, lent, List.length_cons, List.length_nil, List.replicate, List.append_nil, List.cons_append, List.nil_append, reduceIte, Nat.reduceAdd, Nat.reduceSub, Nat.reduceEqDiff, true_and, and_true, Nat.reduceLeDiff, Nat.lt_irrefl, Nat.succ_ne_self, forall_const, ne_eq, not_true_eq_false, not_false_eq_true, false_implies, implies_true, true_implies, true_or, or_true, or_false, false_or, eq_self, Int.reduceEq, Int.reduceLT, Int.reduceLE, Int.reduceNeg, Int.reduceToNat, Int.reduceAdd, Int.reduceSub, Int.reduceMul, Int.reduceNe, and_self, h4, Int.toNat_natCast, g_sI, Nat.reduceEqDiff, false_and, if_false]
    rw [wr_id (by omega) (by omega)]
    refine ⟨by decide, ⟨by omega, by omega⟩, by decide, ⟨by omega, by omega⟩, by decide, ⟨by omega, by omega⟩, by decide, ⟨by omega, by omega⟩, ?_⟩
    refine h _ ((((((t4.wk (fun _ _ _ q => q.e)).sI (Sr 29 _ (by decide) (by decide))).sI (Sr 30 _ (by decide) (by decide))).sI (Sr 31 _ (by decide) (by decide))).sI (Sr 32 _ (by decide) (by decide))).sI (S5 9 (by decide) (by decide))) (((((t2.si (by decide)).si (by decide)).si (by decide)).si (by decide)).si (by decide)) ?_
    refine ⟨h1, by show s.2.2.1 + 1 ≤ 8; omega, (by simp only [g_sI, Nat.reduceEqDiff, and_false, false_and, if_false, and_self, if_true]; exact h3), ?_, (by simp only [g_sI, Nat.reduceEqDiff, and_false, false_and, if_false, and_self, if_true]; exact h5), (by simp only [g_sI, Nat.reduceEqDiff, and_false, false_and, if_false, and_self, if_true]; exact h6), (by simp only [g_sI, Nat.reduceEqDiff, and_false, false_and, if_false, and_self, if_true]; exact h7), fun k hk => h8 k hk, fun f hf => ?_⟩
    · simp only [g_sI, and_self, if_true]; omega
    · have hf : f < s.2.2.1 + 1 := hf
      simp only [g_sI, Nat.reduceEqDiff, false_and, if_false, true_and]
      by_cases z : f = s.2.2.1
      · rw [if_pos z, if_pos z, if_pos z, if_pos z, z, cp_in (p := 1) (by decide), cp_in (p := 2) (by decide), cp_in (p := 3) (by decide)]
        have := cp_in (s := q.2) (g := s.2.2.2.2.2) (c0 := 4 * s.2.2.1) (q := 4) (p := 0) (by decide)
        rw [Nat.add_zero] at this
        rw [this]
        exact ⟨t3 0 (by decide), t3 1 (by decide), t3 2 (by decide), t3 3 (by decide)⟩
      · rw [if_neg z, if_neg z, if_neg z, if_neg z, cp_out (by omega), cp_out (by omega), cp_out (by omega), cp_out (by omega)]
        exact h9 f (by omega)
end RDS
