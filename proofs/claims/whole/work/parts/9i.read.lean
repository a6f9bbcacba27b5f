/-! ===== 9i pair: read ===== -/
section RD
variable {σ : jM} {Φ : jPh} {d K F : Nat} {nt : List jN}
theorem sumN_m {u : Nat → Nat} {a : Nat} : ∀ n, (∀ i, i < n → u i ≤ a) → sumN u n ≤ n * a
  | 0, _ => by unfold sumN; omega
  | n + 1, h => by
    have h1 := sumN_m n (fun i hi => h i (by omega))
    have h2 := h n (by omega)
    rw [Nat.succ_mul]
    unfold sumN
    omega
theorem ok_no {f c v : Nat} (hq : ∀ q ∈ nt, q.1 < K) (h : mfS nt (dg c) = none) : ¬ okA nt f c v := by
  rintro ⟨t, ha, -⟩
  obtain ⟨t', ht'⟩ := mfS_of ha hq (fun w _ => rfl)
  rw [h] at ht'
  cases ht'
theorem ok_yes {f c v : Nat} {t : Nat → Int} (hq : ∀ q ∈ nt, q.1 < K) (h : mfS nt (dg c) = some t) : (t f = -1 ∨ t f = v) ↔ okA nt f c v := by
  have ha := mfS_ag (K := K) (fun w _ => dg_in c w) hq h
  obtain ⟨s1, s2, s3⟩ := mf1_st nt _ t h
  constructor
  · intro e
    refine ⟨t, ha, fun ⟨q, hm, hf⟩ => ?_⟩
    have := s2 q hm
    rw [hf] at this
    omega
  · rintro ⟨t', ha', ht'⟩
    by_cases z : toldF nt f
    · have hv := ht' z
      obtain ⟨q, hm, hf⟩ := z
      have g1 := s2 q hm
      have g2 := ha' q hm
      rw [hf] at g1 g2
      unfold agr at g2
      omega
    · exact Or.inl (s3 f (fun q hm e => z ⟨q, hm, e⟩))
/-- what stands in the table of counts before the truth v of the code c -/
noncomputable def tce (nt : List jN) (f c v k n : Nat) : Nat := sumN (fun c => sumN (fun v => ind (okA nt f c v ∧ v + dgN c k = n)) 21) c + sumN (fun v => ind (okA nt f c v ∧ v + dgN c k = n)) v
theorem tce_c (f c k n : Nat) : tce nt f c 21 k n = tce nt f (c + 1) 0 k n := rfl
theorem tce_v (f c v k n : Nat) : tce nt f c (v + 1) k n = tce nt f c v k n + ind (okA nt f c v ∧ v + dgN c k = n) := (Nat.add_assoc _ _ _).symm
theorem tce_le {f c v k n : Nat} (hv : v ≤ 21) : tce nt f c v k n ≤ c * 21 + 21 := by
  have h1 : sumN (fun c => sumN (fun v => ind (okA nt f c v ∧ v + dgN c k = n)) 21) c ≤ c * 21 := sumN_m c (fun i _ => sumN_le1 21 (fun _ _ => ind_le _))
  have h2 : sumN (fun v => ind (okA nt f c v ∧ v + dgN c k = n)) v ≤ v := sumN_le1 v (fun _ _ => ind_le _)
  unfold tce
  omega
def Sre : jS := fun k j _ => (k = 74 ∨ k = 75 ∨ k = 76) ∧ j = 0
theorem Sre.c {k j o : Nat} (h : Sre k j o) : Sc k j o := by unfold Sre at h; unfold Sc; omega
theorem Sfa.r {k j o : Nat} (h : Sfa k j o) : Sre k j o := by unfold Sfa at h; unfold Sre; omega
def TB (τ : jM) (K : Nat) (u : Nat → Nat → Nat) : Prop := ∀ k n, k < K → n < 30 → τ.1 76 0 (30 * k + n) = u k n
theorem ok_MO_read {f : Nat} (hk : σ.1 10 0 26 = K) (hf : σ.1 10 0 27 = F) (hK : K ≤ 4) (hF : F ≤ 8) (hn : MN σ nt) (hl : NOK nt) (hq : ∀ q ∈ nt, q.1 < K ∧ q.2.1 < F) (hfF : f < F) (h0 : ¬ Snd nt K → ∀ τ, Fr Sre σ τ → Φ (some (.inl (-1))) τ) (h1 : Snd nt K → ∀ τ, Fr Sre σ τ → Φ (some (.inl (bst (fun k => mxN (tal nt K f k) 30) K : Nat))) τ) :
    ∀ At : Nat → jWp, (∀ ls st τ, w_MO_read_17 At Φ (d + 2) ls st τ → At 17 ls st τ) → (∀ ls st τ, w_MO_read_40 At Φ (d + 2) ls st τ → At 40 ls st τ) → (∀ ls st τ, w_MO_read_64 At Φ (d + 2) ls st τ → At 64 ls st τ) → (∀ ls st τ, w_MO_read_98 At Φ (d + 2) ls st τ → At 98 ls st τ) → (∀ ls st τ, w_MO_read_164 At Φ (d + 2) ls st τ → At 164 ls st τ) → (∀ ls st τ, w_MO_read_179 At Φ (d + 2) ls st τ → At 179 ls st τ) → w_MO_read_15 At Φ (d + 2) [some (rf 10 0), some (.inl f), none, none, none, none, none, none] [] σ := by
  intro At h17 h40 h64 h98 h164 h179
  have hq1 : ∀ q ∈ nt, q.1 < K := fun q hm => (hq q hm).1
  have hp := p10 hK
  have c26 : ∀ {τ}, Fr Sre σ τ → τ.1 10 0 26 = K := fun hF => by rw [hF.i (by unfold Sre; omega)]; exact hk
  have c27 : ∀ {τ}, Fr Sre σ τ → τ.1 10 0 27 = F := fun hF => by rw [hF.i (by unfold Sre; omega)]; exact hf
  have cMN : ∀ {τ}, Fr Sre σ τ → MN τ nt := fun hF => MN.fr hF (fun k j o h => by unfold fE at h; unfold Sre; omega) hn
  -- the last loop: the best
  have best : ∀ (m k : Nat) (τ : jM) (any bm : Int) (x6 x7 : Option jV), k + m = K → Fr Sre σ τ → Snd nt K → TB τ K (fun k n => tal nt K f k n) → (0 < k → bm = (mxN (tal nt K f (bst (fun k => mxN (tal nt K f k) 30) k)) 30 : Nat)) → At 164 [some (rf 10 0), some (.inl f), some (.inl any), some (.inl (bst (fun k => mxN (tal nt K f k) 30) k : Nat)), some (.inl bm), some (.inl k), x6, x7] [] τ := by
    intro m
    induction m with
    | zero =>
      intro k τ any bm x6 x7 hk' hF hS hT hb
      refine h164 _ _ _ ?_
      simp only [w_MO_read_164, w_MO_read_240, c_ic, c_lc, c_nul, c_il, c_ll, c_al, c_is, c_ls, c_as, c_inc, c_b2, c_b2n, c_b1, c_d2, c_d2n, c_dsh, c_i2l, c_l2i, c_lcm, c_dup, c_dup2, c_pop, c_j1, c_j2, c_jn, c_sw0, c_sw, c_gI, c_gL, c_gR, c_gS, c_pI, c_pZ, c_pL, c_pR, c_iald, c_ialg, c_iast, c_iasg, c_bald, c_bast, c_lald, c_last, c_aald, c_aals, c_aast, c_alen, c_bnd, c_str, c_bndl, c_bnln, c_sval, c_scod, c_sbal, c_sbln, c_fmt, c_stop, c_iret, c_zret, c_nret, c_aret, c_vret, c_lret, c_cpy, c_callV, c_callS, tkA, lget, lput, lkill, jpush, vsz, jcat, lins, lent, List.length_cons, List.length_nil, List.replicate, List.append_nil, List.cons_append, List.nil_append, reduceIte, Nat.reduceAdd, Nat.reduceSub, Nat.reduceEqDiff, true_and, and_true, Nat.reduceLeDiff, Nat.lt_irrefl, Nat.succ_ne_self, forall_const, ne_eq, not_true_eq_false, not_false_eq_true, false_implies, implies_true, true_implies, true_or, or_true, or_false, false_or, eq_self, Int.reduceEq, Int.reduceLT, Int.reduceLE, Int.reduceNeg, Int.reduceToNat, Int.reduceAdd, Int.reduceSub, Int.reduceMul, Int.reduceNe, and_self, c26 hF]
      refine ⟨fun _ => ?_, fun w => absurd w (by omega)⟩
      obtain rfl : k = K := by omega
      exact h1 hS τ hF
    | succ m ih =>
      intro k τ any bm x6 x7 hk' hF hS hT hb
      refine h164 _ _ _ ?_
      simp only [w_MO_read_164, c_ic, c_lc, c_nul, c_il, c_ll, c_al, c_is, c_ls, c_as, c_inc, c_b2, c_b2n, c_b1, c_d2, c_d2n, c_dsh, c_i2l, c_l2i, c_lcm, c_dup, c_dup2, c_pop, c_j1, c_j2, c_jn, c_sw0, c_sw, c_gI, c_gL, c_gR, c_gS, c_pI, c_pZ, c_pL, c_pR, c_iald, c_ialg, c_iast, c_iasg, c_bald, c_bast, c_lald, c_last, c_aald, c_aals, c_aast, c_alen, c_bnd, c_str, c_bndl, c_bnln, c_sval, c_scod, c_sbal, c_sbln, c_fmt, c_stop, c_iret, c_zret, c_nret, c_aret, c_vret, c_lret, c_cpy, c_callV, c_callS, tkA, lget, lput, lkill, jpush, vsz, jcat, lins, lent, List.length_cons, List.length_nil, List.replicate, List.append_nil, List.cons_append, List.nil_append, reduceIte, Nat.reduceAdd, Nat.reduceSub, Nat.reduceEqDiff, true_and, and_true, Nat.reduceLeDiff, Nat.lt_irrefl, Nat.succ_ne_self, forall_const, ne_eq, not_true_eq_false, not_false_eq_true, false_implies, implies_true, true_implies, true_or, or_true, or_false, false_or, eq_self, Int.reduceEq, Int.reduceLT, Int.reduceLE, Int.reduceNeg, Int.reduceToNat, Int.reduceAdd, Int.reduceSub, Int.reduceMul, Int.reduceNe, and_self, c26 hF]
      refine ⟨fun w => absurd w (by omega), fun _ => ?_⟩
      have hkK : k < K := by omega
      have row : ∀ (m n : Nat), n + m = 30 → At 179 [some (rf 10 0), some (.inl f), some (.inl any), some (.inl (bst (fun k => mxN (tal nt K f k) 30) k : Nat)), some (.inl bm), some (.inl k), some (.inl (mxN (tal nt K f k) n : Nat)), some (.inl n)] [] τ := by
        intro m
        induction m with
        | zero =>
          intro n hn'
          refine h179 _ _ _ ?_
          obtain rfl : n = 30 := by omega
          have eb : bst (fun k => mxN (tal nt K f k) 30) (k + 1) = if mxN (tal nt K f k) 30 < mxN (tal nt K f (bst (fun k => mxN (tal nt K f k) 30) k)) 30 then k else bst (fun k => mxN (tal nt K f k) 30) k := rfl
          simp only [w_MO_read_179, w_MO_read_212, w_MO_read_227, w_MO_read_234, c_ic, c_lc, c_nul, c_il, c_ll, c_al, c_is, c_ls, c_as, c_inc, c_b2, c_b2n, c_b1, c_d2, c_d2n, c_dsh, c_i2l, c_l2i, c_lcm, c_dup, c_dup2, c_pop, c_j1, c_j2, c_jn, c_sw0, c_sw, c_gI, c_gL, c_gR, c_gS, c_pI, c_pZ, c_pL, c_pR, c_iald, c_ialg, c_iast, c_iasg, c_bald, c_bast, c_lald, c_last, c_aald, c_aals, c_aast, c_alen, c_bnd, c_str, c_bndl, c_bnln, c_sval, c_scod, c_sbal, c_sbln, c_fmt, c_stop, c_iret, c_zret, c_nret, c_aret, c_vret, c_lret, c_cpy, c_callV, c_callS, tkA, lget, lput, lkill, jpush, vsz, jcat, lins, lent, List.length_cons, List.length_nil, List.replicate, List.append_nil, List.cons_append, List.nil_append, reduceIte, Nat.reduceAdd, Nat.reduceSub, Nat.reduceEqDiff, true_and, and_true, Nat.reduceLeDiff, Nat.lt_irrefl, Nat.succ_ne_self, forall_const, ne_eq, not_true_eq_false, not_false_eq_true, false_implies, implies_true, true_implies, true_or, or_true, or_false, false_or, eq_self, Int.reduceEq, Int.reduceLT, Int.reduceLE, Int.reduceNeg, Int.reduceToNat, Int.reduceAdd, Int.reduceSub, Int.reduceMul, Int.reduceNe, and_self, inc_nat (show k ≤ 100000 by omega)]
          have gk : ∀ x6 x7, bst (fun k => mxN (tal nt K f k) 30) (k + 1) = k → At 164 [some (rf 10 0), some (.inl f), some (.inl any), some (.inl (k : Int)), some (.inl ((mxN (tal nt K f k) 30 : Nat) : Int)), some (.inl ((k + 1 : Nat) : Int)), x6, x7] [] τ := by
            intro x6 x7 e
            have := ih (k + 1) τ any (mxN (tal nt K f k) 30 : Nat) x6 x7 (by omega) hF hS hT (fun _ => by rw [e])
            rw [e] at this
            exact this
          refine ⟨fun _ => ⟨fun w => ?_, fun w => ?_⟩, fun w => absurd (by decide) w⟩
          · refine gk _ _ ?_
            obtain rfl : k = 0 := by omega
            show (if mxN (tal nt K f 0) 30 < mxN (tal nt K f 0) 30 then 0 else 0) = 0
            split <;> rfl
          · have hb := hb (by omega)
            subst hb
            refine ⟨fun w2 => gk _ _ ?_, fun w2 => ?_⟩
            · rw [eb, if_pos (by omega)]
            · have e : bst (fun k => mxN (tal nt K f k) 30) (k + 1) = bst (fun k => mxN (tal nt K f k) 30) k := by rw [eb, if_neg (by omega)]
              have := ih (k + 1) τ any (mxN (tal nt K f (bst (fun k => mxN (tal nt K f k) 30) k)) 30 : Nat) (some (.inl (mxN (tal nt K f k) 30 : Nat))) (some (.inl (30 : Nat))) (by omega) hF hS hT (fun _ => by rw [e])
              rw [e] at this
              exact this
        | succ m ih2 =>
          intro n hn'
          refine h179 _ _ _ ?_
          have g0 : wr (30 * (k : Int)) = ((30 * k : Nat) : Int) := by simp (disch := omega) only [wr_id]; omega
          have g1 : wr (((30 * k : Nat) : Int) + (n : Int)) = ((30 * k + n : Nat) : Int) := by simp (disch := omega) only [wr_id]; omega
          have cc := hT k n hkK (by omega)
          simp only [w_MO_read_179, c_ic, c_lc, c_nul, c_il, c_ll, c_al, c_is, c_ls, c_as, c_inc, c_b2, c_b2n, c_b1, c_d2, c_d2n, c_dsh, c_i2l, c_l2i, c_lcm, c_dup, c_dup2, c_pop, c_j1, c_j2, c_jn, c_sw0, c_sw, c_gI, c_gL, c_gR, c_gS, c_pI, c_pZ, c_pL, c_pR, c_iald, c_ialg, c_iast, c_iasg, c_bald, c_bast, c_lald, c_last, c_aald, c_aals, c_aast, c_alen, c_bnd, c_str, c_bndl, c_bnln, c_sval, c_scod, c_sbal, c_sbln, c_fmt, c_stop, c_iret, c_zret, c_nret, c_aret, c_vret, c_lret, c_cpy, c_callV, c_callS, tkA, lget, lput, lkill, jpush, vsz, jcat, lins, lent, List.length_cons, List.length_nil, List.replicate, List.append_nil, List.cons_append, List.nil_append, reduceIte, Nat.reduceAdd, Nat.reduceSub, Nat.reduceEqDiff, true_and, and_true, Nat.reduceLeDiff, Nat.lt_irrefl, Nat.succ_ne_self, forall_const, ne_eq, not_true_eq_false, not_false_eq_true, false_implies, implies_true, true_implies, true_or, or_true, or_false, false_or, eq_self, Int.reduceEq, Int.reduceLT, Int.reduceLE, Int.reduceNeg, Int.reduceToNat, Int.reduceAdd, Int.reduceSub, Int.reduceMul, Int.reduceNe, and_self, g0, g1, Int.toNat_natCast, cc, inc_nat (show n ≤ 100000 by omega)]
          refine ⟨fun w => absurd w (by omega), fun _ => ⟨⟨by omega, by omega⟩, ok_MA_max ?_⟩⟩
          simp only [c_ic, c_lc, c_nul, c_il, c_ll, c_al, c_is, c_ls, c_as, c_inc, c_b2, c_b2n, c_b1, c_d2, c_d2n, c_dsh, c_i2l, c_l2i, c_lcm, c_dup, c_dup2, c_pop, c_j1, c_j2, c_jn, c_sw0, c_sw, c_gI, c_gL, c_gR, c_gS, c_pI, c_pZ, c_pL, c_pR, c_iald, c_ialg, c_iast, c_iasg, c_bald, c_bast, c_lald, c_last, c_aald, c_aals, c_aast, c_alen, c_bnd, c_str, c_bndl, c_bnln, c_sval, c_scod, c_sbal, c_sbln, c_fmt, c_stop, c_iret, c_zret, c_nret, c_aret, c_vret, c_lret, c_cpy, c_callV, c_callS, tkA, lget, lput, lkill, jpush, vsz, jcat, lins, lent, List.length_cons, List.length_nil, List.replicate, List.append_nil, List.cons_append, List.nil_append, reduceIte, Nat.reduceAdd, Nat.reduceSub, Nat.reduceEqDiff, true_and, and_true, Nat.reduceLeDiff, Nat.lt_irrefl, Nat.succ_ne_self, forall_const, ne_eq, not_true_eq_false, not_false_eq_true, false_implies, implies_true, true_implies, true_or, or_true, or_false, false_or, eq_self, Int.reduceEq, Int.reduceLT, Int.reduceLE, Int.reduceNeg, Int.reduceToNat, Int.reduceAdd, Int.reduceSub, Int.reduceMul, Int.reduceNe, and_self, inc_nat (show n ≤ 100000 by omega)]
          have := ih2 (n + 1) (by omega)
          rw [show mxN (tal nt K f k) (n + 1) = max (mxN (tal nt K f k) n) (tal nt K f k n) from rfl] at this
          rw [show max ((mxN (tal nt K f k) n : Nat) : Int) ((tal nt K f k n : Nat) : Int) = ((max (mxN (tal nt K f k) n) (tal nt K f k n) : Nat) : Int) by omega]
          exact this
      exact row 30 0 rfl
  -- a truth that goes with a code: every kingdom's cell
  have ks : ∀ (t : Nat → Int) (c v : Nat) (x6 x7 : Option jV), c < 10 ^ K → v < 21 → okA nt f c v → (∀ τ, Fr Sre σ τ → TB τ K (tce nt f c (v + 1)) → (∀ k, k < K → τ.1 75 0 k = dg c k) → τ.1 74 0 f = t f → At 64 [some (rf 10 0), some (.inl f), some (.inl 1), some (.inl c), some (.inl ((v + 1 : Nat) : Int)), some (.inl K), x6, x7] [] τ) → ∀ (m k : Nat) (τ : jM), k + m = K → Fr Sre σ τ → TB τ K (fun k' n => if k' < k then tce nt f c (v + 1) k' n else tce nt f c v k' n) → (∀ k, k < K → τ.1 75 0 k = dg c k) → τ.1 74 0 f = t f → At 98 [some (rf 10 0), some (.inl f), some (.inl 1), some (.inl c), some (.inl v), some (.inl k), x6, x7] [] τ := by
    intro t c v x6 x7 hc hv hok nx m
    induction m with
    | zero =>
      intro k τ hk' hF hT h75 h74
      refine h98 _ _ _ ?_
      simp only [w_MO_read_98, w_MO_read_138, c_ic, c_lc, c_nul, c_il, c_ll, c_al, c_is, c_ls, c_as, c_inc, c_b2, c_b2n, c_b1, c_d2, c_d2n, c_dsh, c_i2l, c_l2i, c_lcm, c_dup, c_dup2, c_pop, c_j1, c_j2, c_jn, c_sw0, c_sw, c_gI, c_gL, c_gR, c_gS, c_pI, c_pZ, c_pL, c_pR, c_iald, c_ialg, c_iast, c_iasg, c_bald, c_bast, c_lald, c_last, c_aald, c_aals, c_aast, c_alen, c_bnd, c_str, c_bndl, c_bnln, c_sval, c_scod, c_sbal, c_sbln, c_fmt, c_stop, c_iret, c_zret, c_nret, c_aret, c_vret, c_lret, c_cpy, c_callV, c_callS, tkA, lget, lput, lkill, jpush, vsz, jcat, lins, lent, List.length_cons, List.length_nil, List.replicate, List.append_nil, List.cons_append, List.nil_append, reduceIte, Nat.reduceAdd, Nat.reduceSub, Nat.reduceEqDiff, true_and, and_true, Nat.reduceLeDiff, Nat.lt_irrefl, Nat.succ_ne_self, forall_const, ne_eq, not_true_eq_false, not_false_eq_true, false_implies, implies_true, true_implies, true_or, or_true, or_false, false_or, eq_self, Int.reduceEq, Int.reduceLT, Int.reduceLE, Int.reduceNeg, Int.reduceToNat, Int.reduceAdd, Int.reduceSub, Int.reduceMul, Int.reduceNe, and_self, c26 hF, inc_nat (show v ≤ 100000 by omega)]
      refine ⟨fun _ => ?_, fun w => absurd w (by omega)⟩
      obtain rfl : k = K := by omega
      refine nx τ hF (fun k' n hk1 hn1 => ?_) h75 h74
      have := hT k' n hk1 hn1
      dsimp only at this
      rw [if_pos hk1] at this
      exact this
    | succ m ih =>
      intro k τ hk' hF hT h75 h74
      refine h98 _ _ _ ?_
      have hkK : k < K := by omega
      have dl := dgN_lt c k
      have g0 : wr (30 * (k : Int)) = ((30 * k : Nat) : Int) := by simp (disch := omega) only [wr_id]; omega
      have g1 : wr (((30 * k : Nat) : Int) + (v : Int)) = ((30 * k + v : Nat) : Int) := by simp (disch := omega) only [wr_id]; omega
      have g2 : wr (((30 * k + v : Nat) : Int) + dg c k) = ((30 * k + (v + dgN c k) : Nat) : Int) := by
        unfold dg
        rw [wr_id (by omega) (by omega)]
        omega
      have cc := hT k (v + dgN c k) hkK (by omega)
      dsimp only at cc
      rw [if_neg (Nat.lt_irrefl k)] at cc
      have cl := tce_le (nt := nt) (f := f) (c := c) (v := v) (k := k) (n := v + dgN c k) (by omega)
      have g3 : wr (((tce nt f c v k (v + dgN c k) : Nat) : Int) + 1) = ((tce nt f c v k (v + dgN c k) + 1 : Nat) : Int) := by
        rw [wr_id (by omega) (by omega)]
        omega
      have nxt := ih (k + 1) (sI τ 76 0 (30 * k + (v + dgN c k)) ((tce nt f c v k (v + dgN c k) + 1 : Nat) : Int)) (by omega) (hF.sI ⟨Or.inr (Or.inr rfl), rfl⟩) (fun k' n hk1 hn1 => by
        have old := hT k' n hk1 hn1
        dsimp only at old
        simp only [g_sI, true_and]
        by_cases z : k' = k
        · subst z
          rw [if_neg (Nat.lt_irrefl k')] at old
          rw [if_pos (show k' < k' + 1 by omega), tce_v]
          by_cases y : n = v + dgN c k'
          · subst y
            rw [if_pos rfl, ind_1 ⟨hok, rfl⟩]
          · rw [if_neg (by omega), ind_0 (fun q => y q.2.symm), old]
            rfl
        · rw [if_neg (by omega), old]
          by_cases y : k' < k
          · rw [if_pos y, if_pos (by omega)]
          · rw [if_neg y, if_neg (by omega)]) h75 h74
      simp only [w_MO_read_98, c_ic, c_lc, c_nul, c_il, c_ll, c_al, c_is, c_ls, c_as, c_inc, c_b2, c_b2n, c_b1, c_d2, c_d2n, c_dsh, c_i2l, c_l2i, c_lcm, c_dup, c_dup2, c_pop, c_j1, c_j2, c_jn, c_sw0, c_sw, c_gI, c_gL, c_gR, c_gS, c_pI, c_pZ, c_pL, c_pR, c_iald, c_ialg, c_iast, c_iasg, c_bald, c_bast, c_lald, c_last, c_aald, c_aals, c_aast, c_alen, c_bnd, c_str, c_bndl, c_bnln, c_sval, c_scod, c_sbal, c_sbln, c_fmt, c_stop, c_iret, c_zret, c_nret, c_aret, c_vret, c_lret, c_cpy, c_callV, c_callS, tkA, lget, lput, lkill, jpush, vsz, jcat, lins, lent, List.length_cons, List.length_nil, List.replicate, List.append_nil, List.cons_append, List.nil_append, reduceIte, Nat.reduceAdd, Nat.reduceSub, Nat.reduceEqDiff, true_and, and_true, Nat.reduceLeDiff, Nat.lt_irrefl, Nat.succ_ne_self, forall_const, ne_eq, not_true_eq_false, not_false_eq_true, false_implies, implies_true, true_implies, true_or, or_true, or_false, false_or, eq_self, Int.reduceEq, Int.reduceLT, Int.reduceLE, Int.reduceNeg, Int.reduceToNat, Int.reduceAdd, Int.reduceSub, Int.reduceMul, Int.reduceNe, and_self, c26 hF, g0, g1, Int.toNat_natCast, h75 k hkK, g2, cc, g3, inc_nat (show k ≤ 100000 by omega)]
      exact ⟨fun w => absurd w (by omega), fun _ => ⟨⟨by omega, by omega⟩, ⟨by omega, by omega⟩, ⟨by omega, by omega⟩, nxt⟩⟩
  -- the truths of a code
  have vs : ∀ (t : Nat → Int) (c : Nat) (x6 x7 : Option jV), c < 10 ^ K → mfS nt (dg c) = some t → (∀ τ x4 x5, Fr Sre σ τ → TB τ K (tce nt f (c + 1) 0) → At 40 [some (rf 10 0), some (.inl f), some (.inl 1), some (.inl ((c + 1 : Nat) : Int)), x4, x5, x6, x7] [] τ) → ∀ (m v : Nat) (τ : jM) (x5 : Option jV), v + m = 21 → Fr Sre σ τ → TB τ K (tce nt f c v) → (∀ k, k < K → τ.1 75 0 k = dg c k) → τ.1 74 0 f = t f → At 64 [some (rf 10 0), some (.inl f), some (.inl 1), some (.inl c), some (.inl v), x5, x6, x7] [] τ := by
    intro t c x6 x7 hc ht nx m
    induction m with
    | zero =>
      intro v τ x5 hv hF hT h75 h74
      refine h64 _ _ _ ?_
      obtain rfl : v = 21 := by omega
      simp only [w_MO_read_64, w_MO_read_144, c_ic, c_lc, c_nul, c_il, c_ll, c_al, c_is, c_ls, c_as, c_inc, c_b2, c_b2n, c_b1, c_d2, c_d2n, c_dsh, c_i2l, c_l2i, c_lcm, c_dup, c_dup2, c_pop, c_j1, c_j2, c_jn, c_sw0, c_sw, c_gI, c_gL, c_gR, c_gS, c_pI, c_pZ, c_pL, c_pR, c_iald, c_ialg, c_iast, c_iasg, c_bald, c_bast, c_lald, c_last, c_aald, c_aals, c_aast, c_alen, c_bnd, c_str, c_bndl, c_bnln, c_sval, c_scod, c_sbal, c_sbln, c_fmt, c_stop, c_iret, c_zret, c_nret, c_aret, c_vret, c_lret, c_cpy, c_callV, c_callS, tkA, lget, lput, lkill, jpush, vsz, jcat, lins, lent, List.length_cons, List.length_nil, List.replicate, List.append_nil, List.cons_append, List.nil_append, reduceIte, Nat.reduceAdd, Nat.reduceSub, Nat.reduceEqDiff, true_and, and_true, Nat.reduceLeDiff, Nat.lt_irrefl, Nat.succ_ne_self, forall_const, ne_eq, not_true_eq_false, not_false_eq_true, false_implies, implies_true, true_implies, true_or, or_true, or_false, false_or, eq_self, Int.reduceEq, Int.reduceLT, Int.reduceLE, Int.reduceNeg, Int.reduceToNat, Int.reduceAdd, Int.reduceSub, Int.reduceMul, Int.reduceNe, and_self, inc_nat (show c ≤ 100000 by omega)]
      exact ⟨fun _ => nx τ _ _ hF hT, fun w => absurd (by decide) w⟩
    | succ m ih =>
      intro v τ x5 hv hF hT h75 h74
      refine h64 _ _ _ ?_
      have oy := ok_yes (f := f) (v := v) hq1 ht
      have go : okA nt f c v → At 98 [some (rf 10 0), some (.inl f), some (.inl 1), some (.inl c), some (.inl v), some (.inl 0), x6, x7] [] τ := by
        intro hok
        refine ks t c v x6 x7 hc (by omega) hok (fun τ' g1 g2 g3 g4 => ih (v + 1) τ' _ (by omega) g1 g2 g3 g4) K 0 τ (Nat.zero_add _) hF (fun k' n hk1 hn1 => ?_) h75 h74
        dsimp only
        rw [if_neg (Nat.not_lt_zero k')]
        exact hT k' n hk1 hn1
      simp only [w_MO_read_64, w_MO_read_95, w_MO_read_138, c_ic, c_lc, c_nul, c_il, c_ll, c_al, c_is, c_ls, c_as, c_inc, c_b2, c_b2n, c_b1, c_d2, c_d2n, c_dsh, c_i2l, c_l2i, c_lcm, c_dup, c_dup2, c_pop, c_j1, c_j2, c_jn, c_sw0, c_sw, c_gI, c_gL, c_gR, c_gS, c_pI, c_pZ, c_pL, c_pR, c_iald, c_ialg, c_iast, c_iasg, c_bald, c_bast, c_lald, c_last, c_aald, c_aals, c_aast, c_alen, c_bnd, c_str, c_bndl, c_bnln, c_sval, c_scod, c_sbal, c_sbln, c_fmt, c_stop, c_iret, c_zret, c_nret, c_aret, c_vret, c_lret, c_cpy, c_callV, c_callS, tkA, lget, lput, lkill, jpush, vsz, jcat, lins, lent, List.length_cons, List.length_nil, List.replicate, List.append_nil, List.cons_append, List.nil_append, reduceIte, Nat.reduceAdd, Nat.reduceSub, Nat.reduceEqDiff, true_and, and_true, Nat.reduceLeDiff, Nat.lt_irrefl, Nat.succ_ne_self, forall_const, ne_eq, not_true_eq_false, not_false_eq_true, false_implies, implies_true, true_implies, true_or, or_true, or_false, false_or, eq_self, Int.reduceEq, Int.reduceLT, Int.reduceLE, Int.reduceNeg, Int.reduceToNat, Int.reduceAdd, Int.reduceSub, Int.reduceMul, Int.reduceNe, and_self, Int.toNat_natCast, h74, inc_nat (show v ≤ 100000 by omega)]
      refine ⟨fun w => absurd w (by omega), fun _ => ⟨⟨by omega, by omega⟩, fun w => go (oy.mp (Or.inl w)), fun w => ⟨⟨by omega, by omega⟩, fun w2 => go (oy.mp (Or.inr w2)), fun w2 => ?_⟩⟩⟩
      have hno : ¬ okA nt f c v := fun q => by
        rcases oy.mpr q with e | e
        · exact w e
        · exact w2 e
      refine ih (v + 1) τ _ (by omega) hF (fun k' n hk1 hn1 => ?_) h75 h74
      rw [tce_v, ind_0 (fun q => hno q.1)]
      exact hT k' n hk1 hn1
  -- the codes
  have cs : ∀ (m c : Nat) (τ : jM) (any : Int) (x4 x5 x6 x7 : Option jV), c + m = 10 ^ K → Fr Sre σ τ → TB τ K (tce nt f c 0) → ((any = 0 ∧ ∀ c', c' < c → mfS nt (dg c') = none) ∨ (any = 1 ∧ Snd nt K)) → At 40 [some (rf 10 0), some (.inl f), some (.inl any), some (.inl c), x4, x5, x6, x7] [] τ := by
    intro m
    induction m with
    | zero =>
      intro c τ any x4 x5 x6 x7 hc hF hT hany
      refine h40 _ _ _ ?_
      simp only [w_MO_read_40, c_ic, c_lc, c_nul, c_il, c_ll, c_al, c_is, c_ls, c_as, c_inc, c_b2, c_b2n, c_b1, c_d2, c_d2n, c_dsh, c_i2l, c_l2i, c_lcm, c_dup, c_dup2, c_pop, c_j1, c_j2, c_jn, c_sw0, c_sw, c_gI, c_gL, c_gR, c_gS, c_pI, c_pZ, c_pL, c_pR, c_iald, c_ialg, c_iast, c_iasg, c_bald, c_bast, c_lald, c_last, c_aald, c_aals, c_aast, c_alen, c_bnd, c_str, c_bndl, c_bnln, c_sval, c_scod, c_sbal, c_sbln, c_fmt, c_stop, c_iret, c_zret, c_nret, c_aret, c_vret, c_lret, c_cpy, c_callV, c_callS, tkA, lget, lput, lkill, jpush, vsz, jcat, lins, lent, List.length_cons, List.length_nil, List.replicate, List.append_nil, List.cons_append, List.nil_append, reduceIte, Nat.reduceAdd, Nat.reduceSub, Nat.reduceEqDiff, true_and, and_true, Nat.reduceLeDiff, Nat.lt_irrefl, Nat.succ_ne_self, forall_const, ne_eq, not_true_eq_false, not_false_eq_true, false_implies, implies_true, true_implies, true_or, or_true, or_false, false_or, eq_self, Int.reduceEq, Int.reduceLT, Int.reduceLE, Int.reduceNeg, Int.reduceToNat, Int.reduceAdd, Int.reduceSub, Int.reduceMul, Int.reduceNe, and_self]
      refine ok_MO_codes (c26 hF) hK ?_
      simp only [c_ic, c_lc, c_nul, c_il, c_ll, c_al, c_is, c_ls, c_as, c_inc, c_b2, c_b2n, c_b1, c_d2, c_d2n, c_dsh, c_i2l, c_l2i, c_lcm, c_dup, c_dup2, c_pop, c_j1, c_j2, c_jn, c_sw0, c_sw, c_gI, c_gL, c_gR, c_gS, c_pI, c_pZ, c_pL, c_pR, c_iald, c_ialg, c_iast, c_iasg, c_bald, c_bast, c_lald, c_last, c_aald, c_aals, c_aast, c_alen, c_bnd, c_str, c_bndl, c_bnln, c_sval, c_scod, c_sbal, c_sbln, c_fmt, c_stop, c_iret, c_zret, c_nret, c_aret, c_vret, c_lret, c_cpy, c_callV, c_callS, tkA, lget, lput, lkill, jpush, vsz, jcat, lins, lent, List.length_cons, List.length_nil, List.replicate, List.append_nil, List.cons_append, List.nil_append, reduceIte, Nat.reduceAdd, Nat.reduceSub, Nat.reduceEqDiff, true_and, and_true, Nat.reduceLeDiff, Nat.lt_irrefl, Nat.succ_ne_self, forall_const, ne_eq, not_true_eq_false, not_false_eq_true, false_implies, implies_true, true_implies, true_or, or_true, or_false, false_or, eq_self, Int.reduceEq, Int.reduceLT, Int.reduceLE, Int.reduceNeg, Int.reduceToNat, Int.reduceAdd, Int.reduceSub, Int.reduceMul, Int.reduceNe, and_self]
      refine ⟨fun _ => ?_, fun w => absurd w (by omega)⟩
      obtain rfl : c = 10 ^ K := by omega
      simp only [w_MO_read_150, w_MO_read_156, c_ic, c_lc, c_nul, c_il, c_ll, c_al, c_is, c_ls, c_as, c_inc, c_b2, c_b2n, c_b1, c_d2, c_d2n, c_dsh, c_i2l, c_l2i, c_lcm, c_dup, c_dup2, c_pop, c_j1, c_j2, c_jn, c_sw0, c_sw, c_gI, c_gL, c_gR, c_gS, c_pI, c_pZ, c_pL, c_pR, c_iald, c_ialg, c_iast, c_iasg, c_bald, c_bast, c_lald, c_last, c_aald, c_aals, c_aast, c_alen, c_bnd, c_str, c_bndl, c_bnln, c_sval, c_scod, c_sbal, c_sbln, c_fmt, c_stop, c_iret, c_zret, c_nret, c_aret, c_vret, c_lret, c_cpy, c_callV, c_callS, tkA, lget, lput, lkill, jpush, vsz, jcat, lins, lent, List.length_cons, List.length_nil, List.replicate, List.append_nil, List.cons_append, List.nil_append, reduceIte, Nat.reduceAdd, Nat.reduceSub, Nat.reduceEqDiff, true_and, and_true, Nat.reduceLeDiff, Nat.lt_irrefl, Nat.succ_ne_self, forall_const, ne_eq, not_true_eq_false, not_false_eq_true, false_implies, implies_true, true_implies, true_or, or_true, or_false, false_or, eq_self, Int.reduceEq, Int.reduceLT, Int.reduceLE, Int.reduceNeg, Int.reduceToNat, Int.reduceAdd, Int.reduceSub, Int.reduceMul, Int.reduceNe, and_self]
      rcases hany with ⟨e, hall⟩ | ⟨e, hS⟩
      · refine ⟨fun w => absurd e w, fun _ => h0 (fun hS => ?_) τ hF⟩
        obtain ⟨b, t, ha, hb, -⟩ := fit_of hl hK hq1 hS (x := (fun _ => -1, fun _ => -1)) (fun q hq => Or.inl ⟨rfl, rfl⟩) ⟨fun w => show (-1 : Int) ≤ -1 ∧ (-1 : Int) ≤ 9 by decide, fun w => show (-1 : Int) ≤ -1 ∧ (-1 : Int) ≤ 20 by decide⟩
        obtain ⟨c, hc1, hd⟩ := code_ex hK hb
        obtain ⟨t', ht'⟩ := mfS_of ha hq1 hd
        rw [hall c hc1] at ht'
        cases ht'
      · refine ⟨fun _ => ?_, fun w => absurd (by omega) w⟩
        exact best K 0 τ any 0 _ _ (Nat.zero_add _) hF hS hT (fun q => absurd q (by omega))
    | succ m ih =>
      intro c τ any x4 x5 x6 x7 hc hF hT hany
      refine h40 _ _ _ ?_
      simp only [w_MO_read_40, c_ic, c_lc, c_nul, c_il, c_ll, c_al, c_is, c_ls, c_as, c_inc, c_b2, c_b2n, c_b1, c_d2, c_d2n, c_dsh, c_i2l, c_l2i, c_lcm, c_dup, c_dup2, c_pop, c_j1, c_j2, c_jn, c_sw0, c_sw, c_gI, c_gL, c_gR, c_gS, c_pI, c_pZ, c_pL, c_pR, c_iald, c_ialg, c_iast, c_iasg, c_bald, c_bast, c_lald, c_last, c_aald, c_aals, c_aast, c_alen, c_bnd, c_str, c_bndl, c_bnln, c_sval, c_scod, c_sbal, c_sbln, c_fmt, c_stop, c_iret, c_zret, c_nret, c_aret, c_vret, c_lret, c_cpy, c_callV, c_callS, tkA, lget, lput, lkill, jpush, vsz, jcat, lins, lent, List.length_cons, List.length_nil, List.replicate, List.append_nil, List.cons_append, List.nil_append, reduceIte, Nat.reduceAdd, Nat.reduceSub, Nat.reduceEqDiff, true_and, and_true, Nat.reduceLeDiff, Nat.lt_irrefl, Nat.succ_ne_self, forall_const, ne_eq, not_true_eq_false, not_false_eq_true, false_implies, implies_true, true_implies, true_or, or_true, or_false, false_or, eq_self, Int.reduceEq, Int.reduceLT, Int.reduceLE, Int.reduceNeg, Int.reduceToNat, Int.reduceAdd, Int.reduceSub, Int.reduceMul, Int.reduceNe, and_self]
      refine ok_MO_codes (c26 hF) hK ?_
      simp only [c_ic, c_lc, c_nul, c_il, c_ll, c_al, c_is, c_ls, c_as, c_inc, c_b2, c_b2n, c_b1, c_d2, c_d2n, c_dsh, c_i2l, c_l2i, c_lcm, c_dup, c_dup2, c_pop, c_j1, c_j2, c_jn, c_sw0, c_sw, c_gI, c_gL, c_gR, c_gS, c_pI, c_pZ, c_pL, c_pR, c_iald, c_ialg, c_iast, c_iasg, c_bald, c_bast, c_lald, c_last, c_aald, c_aals, c_aast, c_alen, c_bnd, c_str, c_bndl, c_bnln, c_sval, c_scod, c_sbal, c_sbln, c_fmt, c_stop, c_iret, c_zret, c_nret, c_aret, c_vret, c_lret, c_cpy, c_callV, c_callS, tkA, lget, lput, lkill, jpush, vsz, jcat, lins, lent, List.length_cons, List.length_nil, List.replicate, List.append_nil, List.cons_append, List.nil_append, reduceIte, Nat.reduceAdd, Nat.reduceSub, Nat.reduceEqDiff, true_and, and_true, Nat.reduceLeDiff, Nat.lt_irrefl, Nat.succ_ne_self, forall_const, ne_eq, not_true_eq_false, not_false_eq_true, false_implies, implies_true, true_implies, true_or, or_true, or_false, false_or, eq_self, Int.reduceEq, Int.reduceLT, Int.reduceLE, Int.reduceNeg, Int.reduceToNat, Int.reduceAdd, Int.reduceSub, Int.reduceMul, Int.reduceNe, and_self]
      refine ⟨fun w => absurd w (by omega), fun _ => ?_⟩
      refine ok_MO_fitsAll (c26 hF) (c27 hF) hK ‹F ≤ 8› (cMN hF) hl hq (by omega) ?_
      cases ht : mfS nt (dg c) with
      | none =>
        intro υ u1
        simp only [w_MO_read_144, c_ic, c_lc, c_nul, c_il, c_ll, c_al, c_is, c_ls, c_as, c_inc, c_b2, c_b2n, c_b1, c_d2, c_d2n, c_dsh, c_i2l, c_l2i, c_lcm, c_dup, c_dup2, c_pop, c_j1, c_j2, c_jn, c_sw0, c_sw, c_gI, c_gL, c_gR, c_gS, c_pI, c_pZ, c_pL, c_pR, c_iald, c_ialg, c_iast, c_iasg, c_bald, c_bast, c_lald, c_last, c_aald, c_aals, c_aast, c_alen, c_bnd, c_str, c_bndl, c_bnln, c_sval, c_scod, c_sbal, c_sbln, c_fmt, c_stop, c_iret, c_zret, c_nret, c_aret, c_vret, c_lret, c_cpy, c_callV, c_callS, tkA, lget, lput, lkill, jpush, vsz, jcat, lins, lent, List.length_cons, List.length_nil, List.replicate, List.append_nil, List.cons_append, List.nil_append, reduceIte, Nat.reduceAdd, Nat.reduceSub, Nat.reduceEqDiff, true_and, and_true, Nat.reduceLeDiff, Nat.lt_irrefl, Nat.succ_ne_self, forall_const, ne_eq, not_true_eq_false, not_false_eq_true, false_implies, implies_true, true_implies, true_or, or_true, or_false, false_or, eq_self, Int.reduceEq, Int.reduceLT, Int.reduceLE, Int.reduceNeg, Int.reduceToNat, Int.reduceAdd, Int.reduceSub, Int.reduceMul, Int.reduceNe, and_self, inc_nat (show c ≤ 100000 by omega)]
        refine ih (c + 1) υ any _ _ _ _ (by omega) (hF.tr (u1.wk (fun _ _ _ q => q.r))) (fun k' n hk1 hn1 => ?_) ?_
        · rw [u1.i (by unfold Sfa; omega), hT k' n hk1 hn1, ← tce_c]
          unfold tce
          rw [sumN_0 (u := fun v => ind (okA nt f c v ∧ v + dgN c k' = n)) 21 (fun v _ => ind_0 (fun q => ok_no hq1 ht q.1))]
          rfl
        · rcases hany with ⟨e, hall⟩ | e
          · refine Or.inl ⟨e, fun c' hc' => ?_⟩
            by_cases z : c' = c
            · rw [z]; exact ht
            · exact hall c' (by omega)
          · exact Or.inr e
      | some t =>
        intro υ u1 u2 u3
        have hFu : Fr Sre σ υ := hF.tr (u1.wk (fun _ _ _ q => q.r))
        have hS : Snd nt K := snd_of (mfS_ag (K := K) (fun w _ => dg_in c w) hq1 ht) (fun w _ => dg_in c w)
        simp only [w_MO_read_59, c_ic, c_lc, c_nul, c_il, c_ll, c_al, c_is, c_ls, c_as, c_inc, c_b2, c_b2n, c_b1, c_d2, c_d2n, c_dsh, c_i2l, c_l2i, c_lcm, c_dup, c_dup2, c_pop, c_j1, c_j2, c_jn, c_sw0, c_sw, c_gI, c_gL, c_gR, c_gS, c_pI, c_pZ, c_pL, c_pR, c_iald, c_ialg, c_iast, c_iasg, c_bald, c_bast, c_lald, c_last, c_aald, c_aals, c_aast, c_alen, c_bnd, c_str, c_bndl, c_bnln, c_sval, c_scod, c_sbal, c_sbln, c_fmt, c_stop, c_iret, c_zret, c_nret, c_aret, c_vret, c_lret, c_cpy, c_callV, c_callS, tkA, lget, lput, lkill, jpush, vsz, jcat, lins, lent, List.length_cons, List.length_nil, List.replicate, List.append_nil, List.cons_append, List.nil_append, reduceIte, Nat.reduceAdd, Nat.reduceSub, Nat.reduceEqDiff, true_and, and_true, Nat.reduceLeDiff, Nat.lt_irrefl, Nat.succ_ne_self, forall_const, ne_eq, not_true_eq_false, not_false_eq_true, false_implies, implies_true, true_implies, true_or, or_true, or_false, false_or, eq_self, Int.reduceEq, Int.reduceLT, Int.reduceLE, Int.reduceNeg, Int.reduceToNat, Int.reduceAdd, Int.reduceSub, Int.reduceMul, Int.reduceNe, and_self]
        refine vs t c _ _ (by omega) ht (fun τ' y4 y5 g1 g2 => ih (c + 1) τ' 1 _ _ _ _ (by omega) g1 g2 (Or.inr ⟨rfl, hS⟩)) 21 0 υ _ rfl hFu (fun k' n hk1 hn1 => ?_) u2 (u3 f hfF)
        rw [u1.i (by unfold Sfa; omega)]
        exact hT k' n hk1 hn1
  -- the table's beginning
  have zs : ∀ (m i : Nat) (τ : jM), i + m = 120 → Fr Sre σ τ → (∀ o, o < i → τ.1 76 0 o = 0) → At 17 [some (rf 10 0), some (.inl f), some (.inl i), none, none, none, none, none] [] τ := by
    intro m
    induction m with
    | zero =>
      intro i τ hi hF hz
      refine h17 _ _ _ ?_
      obtain rfl : i = 120 := by omega
      simp only [w_MO_read_17, w_MO_read_36, c_ic, c_lc, c_nul, c_il, c_ll, c_al, c_is, c_ls, c_as, c_inc, c_b2, c_b2n, c_b1, c_d2, c_d2n, c_dsh, c_i2l, c_l2i, c_lcm, c_dup, c_dup2, c_pop, c_j1, c_j2, c_jn, c_sw0, c_sw, c_gI, c_gL, c_gR, c_gS, c_pI, c_pZ, c_pL, c_pR, c_iald, c_ialg, c_iast, c_iasg, c_bald, c_bast, c_lald, c_last, c_aald, c_aals, c_aast, c_alen, c_bnd, c_str, c_bndl, c_bnln, c_sval, c_scod, c_sbal, c_sbln, c_fmt, c_stop, c_iret, c_zret, c_nret, c_aret, c_vret, c_lret, c_cpy, c_callV, c_callS, tkA, lget, lput, lkill, jpush, vsz, jcat, lins, lent, List.length_cons, List.length_nil, List.replicate, List.append_nil, List.cons_append, List.nil_append, reduceIte, Nat.reduceAdd, Nat.reduceSub, Nat.reduceEqDiff, true_and, and_true, Nat.reduceLeDiff, Nat.lt_irrefl, Nat.succ_ne_self, forall_const, ne_eq, not_true_eq_false, not_false_eq_true, false_implies, implies_true, true_implies, true_or, or_true, or_false, false_or, eq_self, Int.reduceEq, Int.reduceLT, Int.reduceLE, Int.reduceNeg, Int.reduceToNat, Int.reduceAdd, Int.reduceSub, Int.reduceMul, Int.reduceNe, and_self]
      refine ⟨fun _ => ?_, fun w => absurd (by decide) w⟩
      exact cs (10 ^ K) 0 τ 0 _ _ _ _ (Nat.zero_add _) hF (fun k' n hk1 hn1 => hz _ (by omega)) (Or.inl ⟨rfl, fun c' hc' => absurd hc' (by omega)⟩)
    | succ m ih =>
      intro i τ hi hF hz
      refine h17 _ _ _ ?_
      simp only [w_MO_read_17, c_ic, c_lc, c_nul, c_il, c_ll, c_al, c_is, c_ls, c_as, c_inc, c_b2, c_b2n, c_b1, c_d2, c_d2n, c_dsh, c_i2l, c_l2i, c_lcm, c_dup, c_dup2, c_pop, c_j1, c_j2, c_jn, c_sw0, c_sw, c_gI, c_gL, c_gR, c_gS, c_pI, c_pZ, c_pL, c_pR, c_iald, c_ialg, c_iast, c_iasg, c_bald, c_bast, c_lald, c_last, c_aald, c_aals, c_aast, c_alen, c_bnd, c_str, c_bndl, c_bnln, c_sval, c_scod, c_sbal, c_sbln, c_fmt, c_stop, c_iret, c_zret, c_nret, c_aret, c_vret, c_lret, c_cpy, c_callV, c_callS, tkA, lget, lput, lkill, jpush, vsz, jcat, lins, lent, List.length_cons, List.length_nil, List.replicate, List.append_nil, List.cons_append, List.nil_append, reduceIte, Nat.reduceAdd, Nat.reduceSub, Nat.reduceEqDiff, true_and, and_true, Nat.reduceLeDiff, Nat.lt_irrefl, Nat.succ_ne_self, forall_const, ne_eq, not_true_eq_false, not_false_eq_true, false_implies, implies_true, true_implies, true_or, or_true, or_false, false_or, eq_self, Int.reduceEq, Int.reduceLT, Int.reduceLE, Int.reduceNeg, Int.reduceToNat, Int.reduceAdd, Int.reduceSub, Int.reduceMul, Int.reduceNe, and_self, Int.toNat_natCast, inc_nat (show i ≤ 100000 by omega)]
      refine ⟨fun w => absurd w (by omega), fun _ => ⟨⟨by omega, by omega⟩, ih (i + 1) _ (by omega) (hF.sI ⟨Or.inr (Or.inr rfl), rfl⟩) (fun o ho => ?_)⟩⟩
      simp only [g_sI, true_and]
      by_cases z : o = i
      · rw [if_pos z]
      · rw [if_neg z]; exact hz o (by omega)
  simp only [w_MO_read_15, c_ic, c_lc, c_nul, c_il, c_ll, c_al, c_is, c_ls, c_as, c_inc, c_b2, c_b2n, c_b1, c_d2, c_d2n, c_dsh, c_i2l, c_l2i, c_lcm, c_dup, c_dup2, c_pop, c_j1, c_j2, c_jn, c_sw0, c_sw, c_gI, c_gL, c_gR, c_gS, c_pI, c_pZ, c_pL, c_pR, c_iald, c_ialg, c_iast, c_iasg, c_bald, c_bast, c_lald, c_last, c_aald, c_aals, c_aast, c_alen, c_bnd, c_str, c_bndl, c_bnln, c_sval, c_scod, c_sbal, c_sbln, c_fmt, c_stop, c_iret, c_zret, c_nret, c_aret, c_vret, c_lret, c_cpy, c_callV, c_callS, tkA, lget, lput, lkill, jpush, vsz, jcat, lins, lent, List.length_cons, List.length_nil, List.replicate, List.append_nil, List.cons_append, List.nil_append, reduceIte, Nat.reduceAdd, Nat.reduceSub, Nat.reduceEqDiff, true_and, and_true, Nat.reduceLeDiff, Nat.lt_irrefl, Nat.succ_ne_self, forall_const, ne_eq, not_true_eq_false, not_false_eq_true, false_implies, implies_true, true_implies, true_or, or_true, or_false, false_or, eq_self, Int.reduceEq, Int.reduceLT, Int.reduceLE, Int.reduceNeg, Int.reduceToNat, Int.reduceAdd, Int.reduceSub, Int.reduceMul, Int.reduceNe, and_self]
  exact zs 120 0 σ rfl Fr.rf (fun o ho => absurd ho (by omega))
end RD
theorem pr_read {f : Int} : Pr M_LB_read M_MO_read [.inl f] := by
  intro σ q hJ
  obtain ⟨n, T, K, F, r, N, P, CL, PL, U, nt, rfl, hJx⟩ := id hJ
  obtain ⟨hT, hR, hW, hA, hI, hK, hM, hP, hN, hG⟩ := id hJx
  obtain ⟨q1, -, -, -, -, q4, q5, K4, F8, q6⟩ := id hR
  obtain ⟨hU, hb, hm⟩ := id hN
  refine i_LB_read (Nat.le_refl 2) ?_
  simp only [w_LB_read_20, w_LB_read_19, w_LB_read_0, c_ic, c_lc, c_nul, c_il, c_ll, c_al, c_is, c_ls, c_as, c_inc, c_b2, c_b2n, c_b1, c_d2, c_d2n, c_dsh, c_i2l, c_l2i, c_lcm, c_dup, c_dup2, c_pop, c_j1, c_j2, c_jn, c_sw0, c_sw, c_gI, c_gL, c_gR, c_gS, c_pI, c_pZ, c_pL, c_pR, c_iald, c_ialg, c_iast, c_iasg, c_bald, c_bast, c_lald, c_last, c_aald, c_aals, c_aast, c_alen, c_bnd, c_str, c_bndl, c_bnln, c_sval, c_scod, c_sbal, c_sbln, c_fmt, c_stop, c_iret, c_zret, c_nret, c_aret, c_vret, c_lret, c_cpy, c_callV, c_callS, tkA, lget, lput, lkill, jpush, vsz, jcat, lins, lent, List.length_cons, List.length_nil, List.replicate, List.append_nil, List.cons_append, List.nil_append, reduceIte, Nat.reduceAdd, Nat.reduceSub, Nat.reduceEqDiff, true_and, and_true, Nat.reduceLeDiff, Nat.lt_irrefl, Nat.succ_ne_self, forall_const, ne_eq, not_true_eq_false, not_false_eq_true, false_implies, implies_true, true_implies, true_or, or_true, or_false, false_or, eq_self, Int.reduceEq, Int.reduceLT, Int.reduceLE, Int.reduceNeg, Int.reduceToNat, Int.reduceAdd, Int.reduceSub, Int.reduceMul, Int.reduceNe, and_self]
  refine ok_LB_isField hR ?_
  simp only [c_ic, c_lc, c_nul, c_il, c_ll, c_al, c_is, c_ls, c_as, c_inc, c_b2, c_b2n, c_b1, c_d2, c_d2n, c_dsh, c_i2l, c_l2i, c_lcm, c_dup, c_dup2, c_pop, c_j1, c_j2, c_jn, c_sw0, c_sw, c_gI, c_gL, c_gR, c_gS, c_pI, c_pZ, c_pL, c_pR, c_iald, c_ialg, c_iast, c_iasg, c_bald, c_bast, c_lald, c_last, c_aald, c_aals, c_aast, c_alen, c_bnd, c_str, c_bndl, c_bnln, c_sval, c_scod, c_sbal, c_sbln, c_fmt, c_stop, c_iret, c_zret, c_nret, c_aret, c_vret, c_lret, c_cpy, c_callV, c_callS, tkA, lget, lput, lkill, jpush, vsz, jcat, lins, lent, List.length_cons, List.length_nil, List.replicate, List.append_nil, List.cons_append, List.nil_append, reduceIte, Nat.reduceAdd, Nat.reduceSub, Nat.reduceEqDiff, true_and, and_true, Nat.reduceLeDiff, Nat.lt_irrefl, Nat.succ_ne_self, forall_const, ne_eq, not_true_eq_false, not_false_eq_true, false_implies, implies_true, true_implies, true_or, or_true, or_false, false_or, eq_self, Int.reduceEq, Int.reduceLT, Int.reduceLE, Int.reduceNeg, Int.reduceToNat, Int.reduceAdd, Int.reduceSub, Int.reduceMul, Int.reduceNe, and_self]
  refine ⟨fun z => ⟨⟨_, rfl⟩, ?_⟩, fun z => ?_⟩
  · refine i_MO_read (Nat.le_add_right 2 6) (fun At _ _ _ _ _ _ => ?_)
    simp only [w_MO_read_0, c_ic, c_lc, c_nul, c_il, c_ll, c_al, c_is, c_ls, c_as, c_inc, c_b2, c_b2n, c_b1, c_d2, c_d2n, c_dsh, c_i2l, c_l2i, c_lcm, c_dup, c_dup2, c_pop, c_j1, c_j2, c_jn, c_sw0, c_sw, c_gI, c_gL, c_gR, c_gS, c_pI, c_pZ, c_pL, c_pR, c_iald, c_ialg, c_iast, c_iasg, c_bald, c_bast, c_lald, c_last, c_aald, c_aals, c_aast, c_alen, c_bnd, c_str, c_bndl, c_bnln, c_sval, c_scod, c_sbal, c_sbln, c_fmt, c_stop, c_iret, c_zret, c_nret, c_aret, c_vret, c_lret, c_cpy, c_callV, c_callS, tkA, lget, lput, lkill, jpush, vsz, jcat, lins, lent, List.length_cons, List.length_nil, List.replicate, List.append_nil, List.cons_append, List.nil_append, reduceIte, Nat.reduceAdd, Nat.reduceSub, Nat.reduceEqDiff, true_and, and_true, Nat.reduceLeDiff, Nat.lt_irrefl, Nat.succ_ne_self, forall_const, ne_eq, not_true_eq_false, not_false_eq_true, false_implies, implies_true, true_implies, true_or, or_true, or_false, false_or, eq_self, Int.reduceEq, Int.reduceLT, Int.reduceLE, Int.reduceNeg, Int.reduceToNat, Int.reduceAdd, Int.reduceSub, Int.reduceMul, Int.reduceNe, and_self]
    refine ok_MO_isField (F := F) q5 ?_
    simp only [c_ic, c_lc, c_nul, c_il, c_ll, c_al, c_is, c_ls, c_as, c_inc, c_b2, c_b2n, c_b1, c_d2, c_d2n, c_dsh, c_i2l, c_l2i, c_lcm, c_dup, c_dup2, c_pop, c_j1, c_j2, c_jn, c_sw0, c_sw, c_gI, c_gL, c_gR, c_gS, c_pI, c_pZ, c_pL, c_pR, c_iald, c_ialg, c_iast, c_iasg, c_bald, c_bast, c_lald, c_last, c_aald, c_aals, c_aast, c_alen, c_bnd, c_str, c_bndl, c_bnln, c_sval, c_scod, c_sbal, c_sbln, c_fmt, c_stop, c_iret, c_zret, c_nret, c_aret, c_vret, c_lret, c_cpy, c_callV, c_callS, tkA, lget, lput, lkill, jpush, vsz, jcat, lins, lent, List.length_cons, List.length_nil, List.replicate, List.append_nil, List.cons_append, List.nil_append, reduceIte, Nat.reduceAdd, Nat.reduceSub, Nat.reduceEqDiff, true_and, and_true, Nat.reduceLeDiff, Nat.lt_irrefl, Nat.succ_ne_self, forall_const, ne_eq, not_true_eq_false, not_false_eq_true, false_implies, implies_true, true_implies, true_or, or_true, or_false, false_or, eq_self, Int.reduceEq, Int.reduceLT, Int.reduceLE, Int.reduceNeg, Int.reduceToNat, Int.reduceAdd, Int.reduceSub, Int.reduceMul, Int.reduceNe, and_self]
    exact ⟨fun w => absurd z w, fun _ => hJ.sc th_sc⟩
  · have z1 : 0 ≤ f ∧ f < F := Classical.byContradiction (fun q => z (if_neg q))
    obtain ⟨f, rfl⟩ := Int.eq_ofNat_of_zero_le z1.1
    have K0 : 0 < K := by
      rcases q6 with ⟨-, e⟩ | ⟨h, -⟩
      · omega
      · have := h.1; omega
    refine ok_RU_bestWitness hU K4 K0 (by omega) (fun q hq => (hb q hq).1) (fun hS => ?_) (fun hS τ t1 => ?_)
    · simp only [c_ic, c_lc, c_nul, c_il, c_ll, c_al, c_is, c_ls, c_as, c_inc, c_b2, c_b2n, c_b1, c_d2, c_d2n, c_dsh, c_i2l, c_l2i, c_lcm, c_dup, c_dup2, c_pop, c_j1, c_j2, c_jn, c_sw0, c_sw, c_gI, c_gL, c_gR, c_gS, c_pI, c_pZ, c_pL, c_pR, c_iald, c_ialg, c_iast, c_iasg, c_bald, c_bast, c_lald, c_last, c_aald, c_aals, c_aast, c_alen, c_bnd, c_str, c_bndl, c_bnln, c_sval, c_scod, c_sbal, c_sbln, c_fmt, c_stop, c_iret, c_zret, c_nret, c_aret, c_vret, c_lret, c_cpy, c_callV, c_callS, tkA, lget, lput, lkill, jpush, vsz, jcat, lins, lent, List.length_cons, List.length_nil, List.replicate, List.append_nil, List.cons_append, List.nil_append, reduceIte, Nat.reduceAdd, Nat.reduceSub, Nat.reduceEqDiff, true_and, and_true, Nat.reduceLeDiff, Nat.lt_irrefl, Nat.succ_ne_self, forall_const, ne_eq, not_true_eq_false, not_false_eq_true, false_implies, implies_true, true_implies, true_or, or_true, or_false, false_or, eq_self, Int.reduceEq, Int.reduceLT, Int.reduceLE, Int.reduceNeg, Int.reduceToNat, Int.reduceAdd, Int.reduceSub, Int.reduceMul, Int.reduceNe, and_self]
      refine ⟨⟨_, rfl⟩, ?_⟩
      refine i_MO_read (Nat.le_add_right 2 6) (fun At a1 a2 a3 a4 a5 a6 => ?_)
      simp only [w_MO_read_0, c_ic, c_lc, c_nul, c_il, c_ll, c_al, c_is, c_ls, c_as, c_inc, c_b2, c_b2n, c_b1, c_d2, c_d2n, c_dsh, c_i2l, c_l2i, c_lcm, c_dup, c_dup2, c_pop, c_j1, c_j2, c_jn, c_sw0, c_sw, c_gI, c_gL, c_gR, c_gS, c_pI, c_pZ, c_pL, c_pR, c_iald, c_ialg, c_iast, c_iasg, c_bald, c_bast, c_lald, c_last, c_aald, c_aals, c_aast, c_alen, c_bnd, c_str, c_bndl, c_bnln, c_sval, c_scod, c_sbal, c_sbln, c_fmt, c_stop, c_iret, c_zret, c_nret, c_aret, c_vret, c_lret, c_cpy, c_callV, c_callS, tkA, lget, lput, lkill, jpush, vsz, jcat, lins, lent, List.length_cons, List.length_nil, List.replicate, List.append_nil, List.cons_append, List.nil_append, reduceIte, Nat.reduceAdd, Nat.reduceSub, Nat.reduceEqDiff, true_and, and_true, Nat.reduceLeDiff, Nat.lt_irrefl, Nat.succ_ne_self, forall_const, ne_eq, not_true_eq_false, not_false_eq_true, false_implies, implies_true, true_implies, true_or, or_true, or_false, false_or, eq_self, Int.reduceEq, Int.reduceLT, Int.reduceLE, Int.reduceNeg, Int.reduceToNat, Int.reduceAdd, Int.reduceSub, Int.reduceMul, Int.reduceNe, and_self]
      refine ok_MO_isField (F := F) q5 ?_
      rw [if_pos z1]
      simp only [c_ic, c_lc, c_nul, c_il, c_ll, c_al, c_is, c_ls, c_as, c_inc, c_b2, c_b2n, c_b1, c_d2, c_d2n, c_dsh, c_i2l, c_l2i, c_lcm, c_dup, c_dup2, c_pop, c_j1, c_j2, c_jn, c_sw0, c_sw, c_gI, c_gL, c_gR, c_gS, c_pI, c_pZ, c_pL, c_pR, c_iald, c_ialg, c_iast, c_iasg, c_bald, c_bast, c_lald, c_last, c_aald, c_aals, c_aast, c_alen, c_bnd, c_str, c_bndl, c_bnln, c_sval, c_scod, c_sbal, c_sbln, c_fmt, c_stop, c_iret, c_zret, c_nret, c_aret, c_vret, c_lret, c_cpy, c_callV, c_callS, tkA, lget, lput, lkill, jpush, vsz, jcat, lins, lent, List.length_cons, List.length_nil, List.replicate, List.append_nil, List.cons_append, List.nil_append, reduceIte, Nat.reduceAdd, Nat.reduceSub, Nat.reduceEqDiff, true_and, and_true, Nat.reduceLeDiff, Nat.lt_irrefl, Nat.succ_ne_self, forall_const, ne_eq, not_true_eq_false, not_false_eq_true, false_implies, implies_true, true_implies, true_or, or_true, or_false, false_or, eq_self, Int.reduceEq, Int.reduceLT, Int.reduceLE, Int.reduceNeg, Int.reduceToNat, Int.reduceAdd, Int.reduceSub, Int.reduceMul, Int.reduceNe, and_self]
      have hJ1 := hJx.sc (th_sc (σ := σ) (v := 0))
      refine ok_MO_read (d := 57) hJ1.2.1.2.2.2.2.2.1 hJ1.2.1.2.2.2.2.2.2.1 K4 F8 hJ1.2.2.2.2.2.2.2.2.1.2.2 hU.1 hb (by omega) (fun _ τ t2 => ?_) (fun q => absurd q hS) At a1 a2 a3 a4 a5 a6
      exact ⟨rfl, hJ.sc (th_sc.tr (t2.wk (fun _ _ _ q => q.c)))⟩
    · simp only [c_ic, c_lc, c_nul, c_il, c_ll, c_al, c_is, c_ls, c_as, c_inc, c_b2, c_b2n, c_b1, c_d2, c_d2n, c_dsh, c_i2l, c_l2i, c_lcm, c_dup, c_dup2, c_pop, c_j1, c_j2, c_jn, c_sw0, c_sw, c_gI, c_gL, c_gR, c_gS, c_pI, c_pZ, c_pL, c_pR, c_iald, c_ialg, c_iast, c_iasg, c_bald, c_bast, c_lald, c_last, c_aald, c_aals, c_aast, c_alen, c_bnd, c_str, c_bndl, c_bnln, c_sval, c_scod, c_sbal, c_sbln, c_fmt, c_stop, c_iret, c_zret, c_nret, c_aret, c_vret, c_lret, c_cpy, c_callV, c_callS, tkA, lget, lput, lkill, jpush, vsz, jcat, lins, lent, List.length_cons, List.length_nil, List.replicate, List.append_nil, List.cons_append, List.nil_append, reduceIte, Nat.reduceAdd, Nat.reduceSub, Nat.reduceEqDiff, true_and, and_true, Nat.reduceLeDiff, Nat.lt_irrefl, Nat.succ_ne_self, forall_const, ne_eq, not_true_eq_false, not_false_eq_true, false_implies, implies_true, true_implies, true_or, or_true, or_false, false_or, eq_self, Int.reduceEq, Int.reduceLT, Int.reduceLE, Int.reduceNeg, Int.reduceToNat, Int.reduceAdd, Int.reduceSub, Int.reduceMul, Int.reduceNe, and_self]
      refine ⟨⟨_, rfl⟩, ?_⟩
      have t1c : Fr Sc σ τ := t1.wk (fun k j o q => by unfold SFo at q; unfold Sc; omega)
      refine i_MO_read (Nat.le_add_right 2 6) (fun At a1 a2 a3 a4 a5 a6 => ?_)
      simp only [w_MO_read_0, c_ic, c_lc, c_nul, c_il, c_ll, c_al, c_is, c_ls, c_as, c_inc, c_b2, c_b2n, c_b1, c_d2, c_d2n, c_dsh, c_i2l, c_l2i, c_lcm, c_dup, c_dup2, c_pop, c_j1, c_j2, c_jn, c_sw0, c_sw, c_gI, c_gL, c_gR, c_gS, c_pI, c_pZ, c_pL, c_pR, c_iald, c_ialg, c_iast, c_iasg, c_bald, c_bast, c_lald, c_last, c_aald, c_aals, c_aast, c_alen, c_bnd, c_str, c_bndl, c_bnln, c_sval, c_scod, c_sbal, c_sbln, c_fmt, c_stop, c_iret, c_zret, c_nret, c_aret, c_vret, c_lret, c_cpy, c_callV, c_callS, tkA, lget, lput, lkill, jpush, vsz, jcat, lins, lent, List.length_cons, List.length_nil, List.replicate, List.append_nil, List.cons_append, List.nil_append, reduceIte, Nat.reduceAdd, Nat.reduceSub, Nat.reduceEqDiff, true_and, and_true, Nat.reduceLeDiff, Nat.lt_irrefl, Nat.succ_ne_self, forall_const, ne_eq, not_true_eq_false, not_false_eq_true, false_implies, implies_true, true_implies, true_or, or_true, or_false, false_or, eq_self, Int.reduceEq, Int.reduceLT, Int.reduceLE, Int.reduceNeg, Int.reduceToNat, Int.reduceAdd, Int.reduceSub, Int.reduceMul, Int.reduceNe, and_self]
      have hJ1 := hJx.sc (t1c.tr (th_sc (v := 0)))
      refine ok_MO_isField (F := F) hJ1.2.1.2.2.2.2.2.2.1 ?_
      rw [if_pos z1]
      simp only [c_ic, c_lc, c_nul, c_il, c_ll, c_al, c_is, c_ls, c_as, c_inc, c_b2, c_b2n, c_b1, c_d2, c_d2n, c_dsh, c_i2l, c_l2i, c_lcm, c_dup, c_dup2, c_pop, c_j1, c_j2, c_jn, c_sw0, c_sw, c_gI, c_gL, c_gR, c_gS, c_pI, c_pZ, c_pL, c_pR, c_iald, c_ialg, c_iast, c_iasg, c_bald, c_bast, c_lald, c_last, c_aald, c_aals, c_aast, c_alen, c_bnd, c_str, c_bndl, c_bnln, c_sval, c_scod, c_sbal, c_sbln, c_fmt, c_stop, c_iret, c_zret, c_nret, c_aret, c_vret, c_lret, c_cpy, c_callV, c_callS, tkA, lget, lput, lkill, jpush, vsz, jcat, lins, lent, List.length_cons, List.length_nil, List.replicate, List.append_nil, List.cons_append, List.nil_append, reduceIte, Nat.reduceAdd, Nat.reduceSub, Nat.reduceEqDiff, true_and, and_true, Nat.reduceLeDiff, Nat.lt_irrefl, Nat.succ_ne_self, forall_const, ne_eq, not_true_eq_false, not_false_eq_true, false_implies, implies_true, true_implies, true_or, or_true, or_false, false_or, eq_self, Int.reduceEq, Int.reduceLT, Int.reduceLE, Int.reduceNeg, Int.reduceToNat, Int.reduceAdd, Int.reduceSub, Int.reduceMul, Int.reduceNe, and_self]
      refine ok_MO_read (d := 57) hJ1.2.1.2.2.2.2.2.1 hJ1.2.1.2.2.2.2.2.2.1 K4 F8 hJ1.2.2.2.2.2.2.2.2.1.2.2 hU.1 hb (by omega) (fun q => absurd hS q) (fun _ τ' t2 => ?_) At a1 a2 a3 a4 a5 a6
      exact ⟨rfl, hJ.sc ((t1c.tr th_sc).tr (t2.wk (fun _ _ _ q => q.c)))⟩
