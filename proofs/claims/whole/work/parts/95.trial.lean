/-! ===== 95 worlds ahead: what doesn't depend on the log; peace, shelf ===== -/
def elo (V W : Nat → Int) : Prop := ∀ p, p < 110 → V p = W p
theorem elo.upE {V W : Nat → Int} (h : elo V W) (p : Nat) (v : Int) : elo (up V p v) (up W p v) := by
  intro q hq
  simp only [up_at]
  rw [h q hq]
theorem elo.pgsE {V W : Nat → Int} (h : elo V W) (h30 : W 19 ≤ 30) (k : Int) : pgs V k = pgs W k := pgs_congr (h 19 (by decide)) (fun i hi => h _ (by omega))
theorem elo.frcE {K F : Nat} {ru G V W : Nat → Int} {lw : Option (List Int)} (h : elo V W) (hR : RW K F ru G) (h30 : W 19 ≤ 30) {f side : Nat} (hf : f < F) (hs : side < 2) : frc lw G V f side = frc lw G W f side := by
  have hg := hR.at hf
  have hK := hR.1
  have e : (G (4 * f + side)).toNat < 4 := by
    rcases (show side = 0 ∨ side = 1 by omega) with rfl | rfl
    · rw [Nat.add_zero]; omega
    · omega
  unfold frc
  rw [h.pgsE h30, h 18 (by decide), h (4 * (G (4 * f + side)).toNat) (by omega), h (4 * (G (4 * f + side)).toNat + 2) (by omega), h (4 * (G (4 * f + side)).toNat + 3) (by omega)]
theorem elo.sidNE {K F : Nat} {ru G V W : Nat → Int} {lw : Option (List Int)} (h : elo V W) (hR : RW K F ru G) (h30 : W 19 ≤ 30) {f : Nat} (hf : f < F) : sidN lw G V f = sidN lw G W f := by
  unfold sidN sidS frcH
  rw [h.frcE hR h30 hf (by decide), h.frcE hR h30 hf (by decide), h 16 (by decide)]
theorem elo.fldE {V W : Nat → Int} (h : elo V W) (F : Nat) : fld V F = fld W F := by unfold fld; rw [h 18 (by decide)]
theorem elo.burnE {V W : Nat → Int} (h : elo V W) (h30 : W 19 ≤ 30) : elo (burnS V 0) (burnS W 0) := by
  intro p hp
  unfold burnS
  rw [h 19 (by decide)]
  split
  · rfl
  · split
    · exact h _ (by omega)
    · split
      · rfl
      · exact h p hp
theorem elo.wriE {V W : Nat → Int} (h : elo V W) (h30 : W 19 ≤ 30) {f b t : Int} : elo (wriS V f b t) (wriS W f b t) := by
  unfold wriS
  have key : ∀ X Y : Nat → Int, elo X Y → elo (up (up (up (up X (20 + 3 * (X 19).toNat) f) (20 + 3 * (X 19).toNat + 1) b) (20 + 3 * (X 19).toNat + 2) t) 19 (X 19 + 1)) (up (up (up (up Y (20 + 3 * (Y 19).toNat) f) (20 + 3 * (Y 19).toNat + 1) b) (20 + 3 * (Y 19).toNat + 2) t) 19 (Y 19 + 1)) := by
    intro X Y hX
    rw [hX 19 (by decide)]
    exact (((hX.upE _ _).upE _ _).upE _ _).upE _ _
  simp only [h 19 (by decide)]
  by_cases z : W 19 = 30
  · simp only [if_pos z]
    exact key _ _ (h.burnE h30)
  · simp only [if_neg z]
    exact key _ _ h
/-- a year's world, who is beaten -/
def yS (lw : Option (List Int)) (ru G : Nat → Int) (F : Nat) (W : Nat → Int) : Nat → Int := yW (ru 0) G W (fld W F) (sidN lw G W (fld W F))
def yB (lw : Option (List Int)) (G : Nat → Int) (F : Nat) (W : Nat → Int) : Int := yBt G (fld W F) (sidN lw G W (fld W F))
def yI (lw : Option (List Int)) (ru G : Nat → Int) (F : Nat) (W : Nat → Int) : Nat → Nat → Int
  | 0 => W
  | i + 1 => yS lw ru G F (yI lw ru G F W i)
theorem elo.yBE {K F : Nat} {ru G V W : Nat → Int} {lw : Option (List Int)} (h : elo V W) (hR : RW K F ru G) (h30 : W 19 ≤ 30) : yB lw G F V = yB lw G F W := by
  have hf : fld W F < F := Nat.mod_lt _ (by have := hR.2.1; omega)
  unfold yB
  rw [h.fldE, h.sidNE hR h30 hf]
theorem elo.ySE {K F : Nat} {ru G V W : Nat → Int} {lw : Option (List Int)} {Y : Int} (h : elo V W) (hR : RW K F ru G) (hW : WW K Y W) : elo (yS lw ru G F V) (yS lw ru G F W) := by
  have hf : fld W F < F := Nat.mod_lt _ (by have := hR.2.1; omega)
  have h19 := hW.2.2.2.2.2.1
  have hK := hR.1
  unfold yS
  rw [h.fldE, h.sidNE hR h19.2 hf]
  have hs : sidN lw G W (fld W F) = -1 ∨ sidN lw G W (fld W F) = 0 ∨ sidN lw G W (fld W F) = 1 := sid2_in _ _
  obtain ⟨q1, q2, q3⟩ := yr_in hR hW hf hs
  generalize sidN lw G W (fld W F) = s at *
  generalize fld W F = f at *
  have eT : yTl G V f s = yTl G W f s := by
    unfold yTl
    split
    · rfl
    · rw [h _ (by omega)]
  intro p hp
  unfold yW
  rw [log_lo hp, log_lo hp, h 18 (by decide)]
  refine elo.upE ?_ _ _ p hp
  unfold yV
  split
  · exact h
  · rename_i z
    obtain ⟨b1, b2, -⟩ := q3 z
    rw [eT, h 17 (by decide)]
    refine elo.upE (elo.wriE ?_ ?_) _ _
    · unfold yV3
      rw [h _ (show 4 * (yWon G f s).toNat + 3 < 110 by omega), h _ (show 4 * (yBt G f s).toNat < 110 by omega), h _ (show 4 * (yBt G f s).toNat + 2 < 110 by omega)]
      exact ((h.upE _ _).upE _ _).upE _ _
    · unfold yV3
      rw [up_ne (by omega), up_ne (by omega), up_ne (by omega)]
      exact h19.2
theorem WW.cut {K : Nat} {Y : Int} {V W : Nat → Int} (hK : K ≤ 4) (hW : WW K Y W) (h : elo V W) (h0 : V 110 = 0) : WW K Y V := by
  obtain ⟨h1, h2, h3, h4, h5, h6, h7, h8, h9⟩ := hW
  refine ⟨fun k hk => ?_, fun k hk => ?_, ?_, ?_, ?_, ?_, fun i hi => ?_, ?_, fun i hi => ?_⟩
  · rw [h (4 * k) (by omega), h (4 * k + 1) (by omega), h (4 * k + 2) (by omega)]; exact h1 k hk
  · rw [h (4 * k + 3) (by omega)]; exact h2 k hk
  · rw [h 16 (by decide)]; exact h3
  · rw [h 17 (by decide)]; exact h4
  · rw [h 18 (by decide)]; exact h5
  · rw [h 19 (by decide)]; exact h6
  · rw [h 19 (by decide)] at hi
    rw [h (20 + 3 * i) (by omega), h (21 + 3 * i) (by omega), h (22 + 3 * i) (by omega)]; exact h7 i hi
  · rw [h0]; decide
  · rw [h0] at hi; omega
theorem cut_elo (W G : Nat → Int) : elo (up (cpS W G 0 110) 110 0) W := by
  intro p hp
  rw [up_ne (by omega)]
  have := cp_in (s := W) (g := G) (c0 := 0) hp
  rwa [Nat.zero_add] at this
theorem PF.elo {F : Nat} {V W : Nat → Int} (h : elo V W) (h30 : W 19 ≤ 30) (hP : PF F W) : PF F V := PF.lo (fun p _ hp => h p hp) h30 hP
section QY
variable {σ : jM} {Φ : jPh} {d : Nat} {K F r N : Nat} {CL : Nat → List Int} {ru G W V : Nat → Int} {v Y : Int}
theorem SY1.c {k j o : Nat} (h : SY 1 k j o) : Sc k j o := by unfold SY SW SP at h; unfold Sc; omega
theorem JQ.s1 {τ : jM} (h : JQ σ K F r N CL ru G W v) (hF : Fr Sc σ τ) : JQ τ K F r N CL ru G W v := h.sd (hF.wk (fun _ _ _ q => Or.inl q)) (h.2.2.1.sc hF)
theorem q_passYear (h : JQ σ K F r N CL ru G W v) (hC : CW σ 1 K V) (hV : WW K Y V) (hY : Y ≤ 1998) (hp : ∀ τ, Fr (SY 1) σ τ → CW τ 1 K (yS (lwO v CL) ru G F V) → Φ (some (.inl (yB (lwO v CL) G F V))) τ) : Ct (d + 5) M_WO_passYear [rf 8 1, rf 5 r, lvz (laO v)] σ Φ := by
  obtain ⟨a1, a2, a3, a4, a5, a6, a7, a8, a9, a10, a11⟩ := h
  exact Ct.z (ok_WO_passYear hC (a2.lwc a3 a9) a11 a10 hV hY hp)
theorem q_goYear (h : JQ σ K F r N CL ru G W v) (hr : σ.1 69 1 = V) (hV : WW K Y V) (hY : Y ≤ 1998) (hp : ∀ τ, Fr Sd σ τ → MI τ N CL → τ.1 69 1 = yS (lwO v CL) ru G F V → Φ (some (.inl (yB (lwO v CL) G F V))) τ) : Ct (d + 37) M_MO_goYear [rf 10 0, rf 69 1] σ Φ := by
  obtain ⟨a1, a2, a3, a4, a5, a6, a7, a8, a9, a10, a11⟩ := h
  refine ok_MO_goYear a3 (a2.lwm a9) (K := K) (F := F) (by rw [a6, a7]; exact a10) a1.2.2.2.2.2.2.1 (by rw [hr]; exact hV) (by omega) (fun τ t1 t2 => ?_)
  rw [a6, a7, hr]
  exact hp _ ((t1.wk (fun _ _ _ q => q.sd)).sA (fun o => Or.inl (by unfold Sc; omega))) t2.sAm (by rw [sA_row]; rfl)
end QY
/-- years ahead keep within bounds -/
theorem yI_ok {K F : Nat} {ru G W : Nat → Int} {lw : Option (List Int)} (hR : RW K F ru G) {Y : Int} (hW : WW K Y W) : ∀ i : Nat, WW K (Y + i) (yI lw ru G F W i)
  | 0 => by rw [show Y + ((0 : Nat) : Int) = Y by omega]; exact hW
  | i + 1 => by
    have := yI_ok (lw := lw) hR hW i
    have hf : fld (yI lw ru G F W i) F < F := Nat.mod_lt _ (by have := hR.2.1; omega)
    rw [show Y + ((i + 1 : Nat) : Int) = Y + i + 1 by omega]
    exact this.yearW hR hf (sid2_in _ _)
theorem yI_elo {K F : Nat} {ru G V W : Nat → Int} {lw : Option (List Int)} (hR : RW K F ru G) {Y : Int} (hW : WW K Y W) (h : elo V W) : ∀ i : Nat, elo (yI lw ru G F V i) (yI lw ru G F W i)
  | 0 => h
  | i + 1 => (yI_elo hR hW h i).ySE hR (yI_ok hR hW i)
theorem pr_peace : Pr M_LB_peace M_MO_peace [] := by
  intro σ q hJ
  obtain ⟨n, T, K, F, r, N, P, CL, PL, U, nt, rfl, hJx⟩ := id hJ
  obtain ⟨hT, hR, hW, hA, hI, hK, hM, hP, hN, hG⟩ := id hJx
  obtain ⟨q1, -, -, -, -, q4, q5, K4, F8, q6⟩ := id hR
  obtain ⟨hC, hWW, hPF⟩ := id hW
  have h19 := hWW.2.2.2.2.2.1
  have h110 := hWW.2.2.2.2.2.2.2.1
  refine i_LB_peace (Nat.le_succ 1) (fun At h22 => ?_)
  simp only [w_LB_peace_0, w_LB_peace_9, c_ic, c_lc, c_nul, c_il, c_ll, c_al, c_is, c_ls, c_as, c_inc, c_b2, c_b2n, c_b1, c_d2, c_d2n, c_dsh, c_i2l, c_l2i, c_lcm, c_dup, c_dup2, c_pop, c_j1, c_j2, c_jn, c_sw0, c_sw, c_gI, c_gL, c_gR, c_gS, c_pI, c_pZ, c_pL, c_pR, c_iald, c_ialg, c_iast, c_iasg, c_bald, c_bast, c_lald, c_last, c_aald, c_aals, c_aast, c_alen, c_bnd, c_str, c_bndl, c_bnln, c_sval, c_scod, c_sbal, c_sbln, c_fmt, c_stop, c_iret, c_zret, c_nret, c_aret, c_vret, c_lret, c_cpy, c_callV, c_callS, tkA, lget, lput, lkill, jpush, vsz, jcat, lins, lent, List.length_cons, List.length_nil, List.replicate, List.append_nil, List.cons_append, List.nil_append, reduceIte, Nat.reduceAdd, Nat.reduceSub, Nat.reduceEqDiff, true_and, and_true, Nat.reduceLeDiff, Nat.lt_irrefl, Nat.succ_ne_self, forall_const, ne_eq, not_true_eq_false, not_false_eq_true, false_implies, implies_true, true_implies, true_or, or_true, or_false, false_or, eq_self, Int.reduceEq, Int.reduceLT, Int.reduceLE, Int.reduceNeg, Int.reduceToNat, Int.reduceAdd, Int.reduceSub, Int.reduceMul, Int.reduceNe, and_self]
  refine ok_LB_hasRealm hR ?_
  simp only [c_ic, c_lc, c_nul, c_il, c_ll, c_al, c_is, c_ls, c_as, c_inc, c_b2, c_b2n, c_b1, c_d2, c_d2n, c_dsh, c_i2l, c_l2i, c_lcm, c_dup, c_dup2, c_pop, c_j1, c_j2, c_jn, c_sw0, c_sw, c_gI, c_gL, c_gR, c_gS, c_pI, c_pZ, c_pL, c_pR, c_iald, c_ialg, c_iast, c_iasg, c_bald, c_bast, c_lald, c_last, c_aald, c_aals, c_aast, c_alen, c_bnd, c_str, c_bndl, c_bnln, c_sval, c_scod, c_sbal, c_sbln, c_fmt, c_stop, c_iret, c_zret, c_nret, c_aret, c_vret, c_lret, c_cpy, c_callV, c_callS, tkA, lget, lput, lkill, jpush, vsz, jcat, lins, lent, List.length_cons, List.length_nil, List.replicate, List.append_nil, List.cons_append, List.nil_append, reduceIte, Nat.reduceAdd, Nat.reduceSub, Nat.reduceEqDiff, true_and, and_true, Nat.reduceLeDiff, Nat.lt_irrefl, Nat.succ_ne_self, forall_const, ne_eq, not_true_eq_false, not_false_eq_true, false_implies, implies_true, true_implies, true_or, or_true, or_false, false_or, eq_self, Int.reduceEq, Int.reduceLT, Int.reduceLE, Int.reduceNeg, Int.reduceToNat, Int.reduceAdd, Int.reduceSub, Int.reduceMul, Int.reduceNe, and_self]
  refine ⟨fun z => ?_, fun z => ⟨⟨_, rfl⟩, ?_⟩⟩
  rotate_left
  · refine i_MO_peace (Nat.le_succ 1) (fun At h27 => ?_)
    have : ¬ 0 < K := fun q => z (by rw [if_pos q]; decide)
    simp only [w_MO_peace_0, c_ic, c_lc, c_nul, c_il, c_ll, c_al, c_is, c_ls, c_as, c_inc, c_b2, c_b2n, c_b1, c_d2, c_d2n, c_dsh, c_i2l, c_l2i, c_lcm, c_dup, c_dup2, c_pop, c_j1, c_j2, c_jn, c_sw0, c_sw, c_gI, c_gL, c_gR, c_gS, c_pI, c_pZ, c_pL, c_pR, c_iald, c_ialg, c_iast, c_iasg, c_bald, c_bast, c_lald, c_last, c_aald, c_aals, c_aast, c_alen, c_bnd, c_str, c_bndl, c_bnln, c_sval, c_scod, c_sbal, c_sbln, c_fmt, c_stop, c_iret, c_zret, c_nret, c_aret, c_vret, c_lret, c_cpy, c_callV, c_callS, tkA, lget, lput, lkill, jpush, vsz, jcat, lins, lent, List.length_cons, List.length_nil, List.replicate, List.append_nil, List.cons_append, List.nil_append, reduceIte, Nat.reduceAdd, Nat.reduceSub, Nat.reduceEqDiff, true_and, and_true, Nat.reduceLeDiff, Nat.lt_irrefl, Nat.succ_ne_self, forall_const, ne_eq, not_true_eq_false, not_false_eq_true, false_implies, implies_true, true_implies, true_or, or_true, or_false, false_or, eq_self, Int.reduceEq, Int.reduceLT, Int.reduceLE, Int.reduceNeg, Int.reduceToNat, Int.reduceAdd, Int.reduceSub, Int.reduceMul, Int.reduceNe, and_self, g_sI, g_sI2, g_sL1, g_sL, g_sL2, g_sR1, g_sR2, g_sR, g_sA, g_sA2, and_false, false_and, and_self, if_false, if_true, q4]
    exact ⟨fun w => absurd w (by omega), fun _ => hJ.sc th_sc⟩
  have hK0 : 0 < K := Classical.byContradiction (fun q => z (if_neg q))
  have hQ := hJx.q (Or.inr hK0)
  have hRW := hQ.2.2.2.2.2.2.2.2.2.1
  generalize hru : σ.1 63 0 = ru at *
  generalize hgg : σ.1 66 0 = G at *
  generalize hww : σ.1 69 0 = W at *
  generalize hvv : σ.1 10 0 34 = v at *
  have yk := yI_ok (lw := lwO v CL) hRW hWW
  -- the model, once the class has found i
  have mo : ∀ (i : Nat) (res : Int) (τ : jM), i ≤ 60 → (∀ q, q < i → yB (lwO v CL) G F (yI (lwO v CL) ru G F W q) ≠ -1) → ((i < 60 ∧ yB (lwO v CL) G F (yI (lwO v CL) ru G F W i) = -1 ∧ res = i + 1) ∨ (i = 60 ∧ res = -1)) → Fr Sc σ τ → Ct 60 M_MO_peace [rf 10 0] τ (fun y τ' => y = some (.inl res) ∧ J (N, P) τ') := by
    intro i res τ hi hb hres t1
    have hQ1 := (hQ.s1 t1).th (x := 0)
    have hJ1 := (hJx.sc t1).sc (th_sc (v := 0))
    refine i_MO_peace (Nat.le_succ 1) (fun At h27 => ?_)
    have key : ∀ (m q : Nat) (υ : jM), q + m = i → Fr Sd (sI τ 10 0 0 0) υ → MI υ N CL → elo (υ.1 69 1) (yI (lwO v CL) ru G F W q) → WW K (999 + q) (υ.1 69 1) → At 27 [some (rf 10 0), some (.inl ((q : Int) + 1))] [] υ := by
      intro m
      induction m with
      | zero =>
        intro q υ hq u1 u2 u3 u4
        obtain rfl : q = i := by omega
        refine h27 _ _ _ ?_
        have jj : J (N, P) υ := ⟨n, T, K, F, r, N, P, CL, PL, U, nt, rfl, hJ1.sd u1 u2⟩
        simp only [w_MO_peace_27, w_MO_peace_53, w_MO_peace_47, c_ic, c_lc, c_nul, c_il, c_ll, c_al, c_is, c_ls, c_as, c_inc, c_b2, c_b2n, c_b1, c_d2, c_d2n, c_dsh, c_i2l, c_l2i, c_lcm, c_dup, c_dup2, c_pop, c_j1, c_j2, c_jn, c_sw0, c_sw, c_gI, c_gL, c_gR, c_gS, c_pI, c_pZ, c_pL, c_pR, c_iald, c_ialg, c_iast, c_iasg, c_bald, c_bast, c_lald, c_last, c_aald, c_aals, c_aast, c_alen, c_bnd, c_str, c_bndl, c_bnln, c_sval, c_scod, c_sbal, c_sbln, c_fmt, c_stop, c_iret, c_zret, c_nret, c_aret, c_vret, c_lret, c_cpy, c_callV, c_callS, tkA, lget, lput, lkill, jpush, vsz, jcat, lins, lent, List.length_cons, List.length_nil, List.replicate, List.append_nil, List.cons_append, List.nil_append, reduceIte, Nat.reduceAdd, Nat.reduceSub, Nat.reduceEqDiff, true_and, and_true, Nat.reduceLeDiff, Nat.lt_irrefl, Nat.succ_ne_self, forall_const, ne_eq, not_true_eq_false, not_false_eq_true, false_implies, implies_true, true_implies, true_or, or_true, or_false, false_or, eq_self, Int.reduceEq, Int.reduceLT, Int.reduceLE, Int.reduceNeg, Int.reduceToNat, Int.reduceAdd, Int.reduceSub, Int.reduceMul, Int.reduceNe, and_self]
        refine ⟨fun w => ?_, fun w => ?_⟩
        · rcases hres with h | h
          · omega
          · rw [h.2]; exact ⟨rfl, jj⟩
        · rcases hres with h | h
          · refine q_goYear (hQ1.sd u1 u2) rfl u4 (by omega) (fun φ f1 f2 f3 => ?_)
            have e := u3.yBE (lw := lwO v CL) hRW (yk q).2.2.2.2.2.1.2
            rw [e, h.2.1, h.2.2]
            simp only [c_ic, c_lc, c_nul, c_il, c_ll, c_al, c_is, c_ls, c_as, c_inc, c_b2, c_b2n, c_b1, c_d2, c_d2n, c_dsh, c_i2l, c_l2i, c_lcm, c_dup, c_dup2, c_pop, c_j1, c_j2, c_jn, c_sw0, c_sw, c_gI, c_gL, c_gR, c_gS, c_pI, c_pZ, c_pL, c_pR, c_iald, c_ialg, c_iast, c_iasg, c_bald, c_bast, c_lald, c_last, c_aald, c_aals, c_aast, c_alen, c_bnd, c_str, c_bndl, c_bnln, c_sval, c_scod, c_sbal, c_sbln, c_fmt, c_stop, c_iret, c_zret, c_nret, c_aret, c_vret, c_lret, c_cpy, c_callV, c_callS, tkA, lget, lput, lkill, jpush, vsz, jcat, lins, lent, List.length_cons, List.length_nil, List.replicate, List.append_nil, List.cons_append, List.nil_append, reduceIte, Nat.reduceAdd, Nat.reduceSub, Nat.reduceEqDiff, true_and, and_true, Nat.reduceLeDiff, Nat.lt_irrefl, Nat.succ_ne_self, forall_const, ne_eq, not_true_eq_false, not_false_eq_true, false_implies, implies_true, true_implies, true_or, or_true, or_false, false_or, eq_self, Int.reduceEq, Int.reduceLT, Int.reduceLE, Int.reduceNeg, Int.reduceToNat, Int.reduceAdd, Int.reduceSub, Int.reduceMul, Int.reduceNe, and_self]
            exact ⟨n, T, K, F, r, N, P, CL, PL, U, nt, rfl, hJ1.sd (u1.tr f1) f2⟩
          · omega
      | succ m ih =>
        intro q υ hq u1 u2 u3 u4
        refine h27 _ _ _ ?_
        have e1 : wr ((q : Int) + 1 + 1) = ((q + 1 : Nat) : Int) + 1 := by rw [wr_id (by omega) (by omega)]; omega
        simp only [w_MO_peace_27, w_MO_peace_47, c_ic, c_lc, c_nul, c_il, c_ll, c_al, c_is, c_ls, c_as, c_inc, c_b2, c_b2n, c_b1, c_d2, c_d2n, c_dsh, c_i2l, c_l2i, c_lcm, c_dup, c_dup2, c_pop, c_j1, c_j2, c_jn, c_sw0, c_sw, c_gI, c_gL, c_gR, c_gS, c_pI, c_pZ, c_pL, c_pR, c_iald, c_ialg, c_iast, c_iasg, c_bald, c_bast, c_lald, c_last, c_aald, c_aals, c_aast, c_alen, c_bnd, c_str, c_bndl, c_bnln, c_sval, c_scod, c_sbal, c_sbln, c_fmt, c_stop, c_iret, c_zret, c_nret, c_aret, c_vret, c_lret, c_cpy, c_callV, c_callS, tkA, lget, lput, lkill, jpush, vsz, jcat, lins, lent, List.length_cons, List.length_nil, List.replicate, List.append_nil, List.cons_append, List.nil_append, reduceIte, Nat.reduceAdd, Nat.reduceSub, Nat.reduceEqDiff, true_and, and_true, Nat.reduceLeDiff, Nat.lt_irrefl, Nat.succ_ne_self, forall_const, ne_eq, not_true_eq_false, not_false_eq_true, false_implies, implies_true, true_implies, true_or, or_true, or_false, false_or, eq_self, Int.reduceEq, Int.reduceLT, Int.reduceLE, Int.reduceNeg, Int.reduceToNat, Int.reduceAdd, Int.reduceSub, Int.reduceMul, Int.reduceNe, and_self, e1]
        refine ⟨fun w => absurd w (by omega), fun _ => ?_⟩
        refine q_goYear (hQ1.sd u1 u2) rfl u4 (by omega) (fun φ f1 f2 f3 => ?_)
        have e := u3.yBE (lw := lwO v CL) hRW (yk q).2.2.2.2.2.1.2
        rw [e]
        simp only [c_ic, c_lc, c_nul, c_il, c_ll, c_al, c_is, c_ls, c_as, c_inc, c_b2, c_b2n, c_b1, c_d2, c_d2n, c_dsh, c_i2l, c_l2i, c_lcm, c_dup, c_dup2, c_pop, c_j1, c_j2, c_jn, c_sw0, c_sw, c_gI, c_gL, c_gR, c_gS, c_pI, c_pZ, c_pL, c_pR, c_iald, c_ialg, c_iast, c_iasg, c_bald, c_bast, c_lald, c_last, c_aald, c_aals, c_aast, c_alen, c_bnd, c_str, c_bndl, c_bnln, c_sval, c_scod, c_sbal, c_sbln, c_fmt, c_stop, c_iret, c_zret, c_nret, c_aret, c_vret, c_lret, c_cpy, c_callV, c_callS, tkA, lget, lput, lkill, jpush, vsz, jcat, lins, lent, List.length_cons, List.length_nil, List.replicate, List.append_nil, List.cons_append, List.nil_append, reduceIte, Nat.reduceAdd, Nat.reduceSub, Nat.reduceEqDiff, true_and, and_true, Nat.reduceLeDiff, Nat.lt_irrefl, Nat.succ_ne_self, forall_const, ne_eq, not_true_eq_false, not_false_eq_true, false_implies, implies_true, true_implies, true_or, or_true, or_false, false_or, eq_self, Int.reduceEq, Int.reduceLT, Int.reduceLE, Int.reduceNeg, Int.reduceToNat, Int.reduceAdd, Int.reduceSub, Int.reduceMul, Int.reduceNe, and_self]
        refine ⟨fun _ => ?_, fun w => absurd (hb q (by omega)) w⟩
        refine ih (q + 1) φ (by omega) (u1.tr f1) f2 ?_ ?_
        · rw [f3]; exact u3.ySE hRW (yk q)
        · rw [f3, show (999 : Int) + ((q + 1 : Nat) : Int) = 999 + q + 1 by omega]
          have hf : fld (υ.1 69 1) F < F := Nat.mod_lt _ (by have := hRW.2.1; omega)
          exact u4.yearW hRW hf (sid2_in _ _)
    simp only [w_MO_peace_0, w_MO_peace_14, c_ic, c_lc, c_nul, c_il, c_ll, c_al, c_is, c_ls, c_as, c_inc, c_b2, c_b2n, c_b1, c_d2, c_d2n, c_dsh, c_i2l, c_l2i, c_lcm, c_dup, c_dup2, c_pop, c_j1, c_j2, c_jn, c_sw0, c_sw, c_gI, c_gL, c_gR, c_gS, c_pI, c_pZ, c_pL, c_pR, c_iald, c_ialg, c_iast, c_iasg, c_bald, c_bast, c_lald, c_last, c_aald, c_aals, c_aast, c_alen, c_bnd, c_str, c_bndl, c_bnln, c_sval, c_scod, c_sbal, c_sbln, c_fmt, c_stop, c_iret, c_zret, c_nret, c_aret, c_vret, c_lret, c_cpy, c_callV, c_callS, tkA, lget, lput, lkill, jpush, vsz, jcat, lins, lent, List.length_cons, List.length_nil, List.replicate, List.append_nil, List.cons_append, List.nil_append, reduceIte, Nat.reduceAdd, Nat.reduceSub, Nat.reduceEqDiff, true_and, and_true, Nat.reduceLeDiff, Nat.lt_irrefl, Nat.succ_ne_self, forall_const, ne_eq, not_true_eq_false, not_false_eq_true, false_implies, implies_true, true_implies, true_or, or_true, or_false, false_or, eq_self, Int.reduceEq, Int.reduceLT, Int.reduceLE, Int.reduceNeg, Int.reduceToNat, Int.reduceAdd, Int.reduceSub, Int.reduceMul, Int.reduceNe, and_self, hQ1.1.2.2.2.2.2.1]
    refine ⟨fun _ => ?_, fun w => absurd w (by omega)⟩
    refine ok_MO_copy (by decide) (fun υ u1 u2 => ?_)
    have e69 : (sI τ 10 0 0 0).1 69 0 = W := hQ1.2.2.2.2.2.2.2.1
    rw [e69] at u2
    have u1' : Fr Sc (sI τ 10 0 0 0) υ := u1.wk (fun k j o q => by unfold Sc; omega)
    have el : elo (υ.1 69 1) W := by rw [u2]; exact cut_elo _ _
    simp only [c_ic, c_lc, c_nul, c_il, c_ll, c_al, c_is, c_ls, c_as, c_inc, c_b2, c_b2n, c_b1, c_d2, c_d2n, c_dsh, c_i2l, c_l2i, c_lcm, c_dup, c_dup2, c_pop, c_j1, c_j2, c_jn, c_sw0, c_sw, c_gI, c_gL, c_gR, c_gS, c_pI, c_pZ, c_pL, c_pR, c_iald, c_ialg, c_iast, c_iasg, c_bald, c_bast, c_lald, c_last, c_aald, c_aals, c_aast, c_alen, c_bnd, c_str, c_bndl, c_bnln, c_sval, c_scod, c_sbal, c_sbln, c_fmt, c_stop, c_iret, c_zret, c_nret, c_aret, c_vret, c_lret, c_cpy, c_callV, c_callS, tkA, lget, lput, lkill, jpush, vsz, jcat, lins, lent, List.length_cons, List.length_nil, List.replicate, List.append_nil, List.cons_append, List.nil_append, reduceIte, Nat.reduceAdd, Nat.reduceSub, Nat.reduceEqDiff, true_and, and_true, Nat.reduceLeDiff, Nat.lt_irrefl, Nat.succ_ne_self, forall_const, ne_eq, not_true_eq_false, not_false_eq_true, false_implies, implies_true, true_implies, true_or, or_true, or_false, false_or, eq_self, Int.reduceEq, Int.reduceLT, Int.reduceLE, Int.reduceNeg, Int.reduceToNat, Int.reduceAdd, Int.reduceSub, Int.reduceMul, Int.reduceNe, and_self]
    have := key i 0 υ (Nat.zero_add _) (u1'.wk (fun _ _ _ q => Or.inl q)) (hQ1.2.2.1.sc u1') el ((WW.cut K4 hWW el (by rw [u2, up_eq])).wkY (by omega))
    exact this
  have key : ∀ (m q : Nat) (τ : jM), q + m = 60 → (∀ p, p < q → yB (lwO v CL) G F (yI (lwO v CL) ru G F W p) ≠ -1) → Fr Sc σ τ → CW τ 1 K (yI (lwO v CL) ru G F W q) → At 22 [some (rf 9 0), some (.inl ((q : Int) + 1))] [] τ := by
    intro m
    induction m with
    | zero =>
      intro q τ hq hb t1 t2
      refine h22 _ _ _ ?_
      simp only [w_LB_peace_22, w_LB_peace_55, c_ic, c_lc, c_nul, c_il, c_ll, c_al, c_is, c_ls, c_as, c_inc, c_b2, c_b2n, c_b1, c_d2, c_d2n, c_dsh, c_i2l, c_l2i, c_lcm, c_dup, c_dup2, c_pop, c_j1, c_j2, c_jn, c_sw0, c_sw, c_gI, c_gL, c_gR, c_gS, c_pI, c_pZ, c_pL, c_pR, c_iald, c_ialg, c_iast, c_iasg, c_bald, c_bast, c_lald, c_last, c_aald, c_aals, c_aast, c_alen, c_bnd, c_str, c_bndl, c_bnln, c_sval, c_scod, c_sbal, c_sbln, c_fmt, c_stop, c_iret, c_zret, c_nret, c_aret, c_vret, c_lret, c_cpy, c_callV, c_callS, tkA, lget, lput, lkill, jpush, vsz, jcat, lins, lent, List.length_cons, List.length_nil, List.replicate, List.append_nil, List.cons_append, List.nil_append, reduceIte, Nat.reduceAdd, Nat.reduceSub, Nat.reduceEqDiff, true_and, and_true, Nat.reduceLeDiff, Nat.lt_irrefl, Nat.succ_ne_self, forall_const, ne_eq, not_true_eq_false, not_false_eq_true, false_implies, implies_true, true_implies, true_or, or_true, or_false, false_or, eq_self, Int.reduceEq, Int.reduceLT, Int.reduceLE, Int.reduceNeg, Int.reduceToNat, Int.reduceAdd, Int.reduceSub, Int.reduceMul, Int.reduceNe, and_self]
      exact ⟨fun _ => ⟨⟨_, rfl⟩, mo q (-1) τ (by omega) hb (Or.inr ⟨by omega, rfl⟩) t1⟩, fun w => absurd w (by omega)⟩
    | succ m ih =>
      intro q τ hq hb t1 t2
      refine h22 _ _ _ ?_
      have hQ1 := hQ.s1 t1
      have e1 : wr ((q : Int) + 1 + 1) = ((q + 1 : Nat) : Int) + 1 := by rw [wr_id (by omega) (by omega)]; omega
      simp only [w_LB_peace_22, w_LB_peace_49, c_ic, c_lc, c_nul, c_il, c_ll, c_al, c_is, c_ls, c_as, c_inc, c_b2, c_b2n, c_b1, c_d2, c_d2n, c_dsh, c_i2l, c_l2i, c_lcm, c_dup, c_dup2, c_pop, c_j1, c_j2, c_jn, c_sw0, c_sw, c_gI, c_gL, c_gR, c_gS, c_pI, c_pZ, c_pL, c_pR, c_iald, c_ialg, c_iast, c_iasg, c_bald, c_bast, c_lald, c_last, c_aald, c_aals, c_aast, c_alen, c_bnd, c_str, c_bndl, c_bnln, c_sval, c_scod, c_sbal, c_sbln, c_fmt, c_stop, c_iret, c_zret, c_nret, c_aret, c_vret, c_lret, c_cpy, c_callV, c_callS, tkA, lget, lput, lkill, jpush, vsz, jcat, lins, lent, List.length_cons, List.length_nil, List.replicate, List.append_nil, List.cons_append, List.nil_append, reduceIte, Nat.reduceAdd, Nat.reduceSub, Nat.reduceEqDiff, true_and, and_true, Nat.reduceLeDiff, Nat.lt_irrefl, Nat.succ_ne_self, forall_const, ne_eq, not_true_eq_false, not_false_eq_true, false_implies, implies_true, true_implies, true_or, or_true, or_false, false_or, eq_self, Int.reduceEq, Int.reduceLT, Int.reduceLE, Int.reduceNeg, Int.reduceToNat, Int.reduceAdd, Int.reduceSub, Int.reduceMul, Int.reduceNe, and_self, hQ1.1.1, e1]
      refine ⟨fun w => absurd w (by omega), fun _ => ?_⟩
      refine q_ruling hQ1 ?_
      simp only [c_ic, c_lc, c_nul, c_il, c_ll, c_al, c_is, c_ls, c_as, c_inc, c_b2, c_b2n, c_b1, c_d2, c_d2n, c_dsh, c_i2l, c_l2i, c_lcm, c_dup, c_dup2, c_pop, c_j1, c_j2, c_jn, c_sw0, c_sw, c_gI, c_gL, c_gR, c_gS, c_pI, c_pZ, c_pL, c_pR, c_iald, c_ialg, c_iast, c_iasg, c_bald, c_bast, c_lald, c_last, c_aald, c_aals, c_aast, c_alen, c_bnd, c_str, c_bndl, c_bnln, c_sval, c_scod, c_sbal, c_sbln, c_fmt, c_stop, c_iret, c_zret, c_nret, c_aret, c_vret, c_lret, c_cpy, c_callV, c_callS, tkA, lget, lput, lkill, jpush, vsz, jcat, lins, lent, List.length_cons, List.length_nil, List.replicate, List.append_nil, List.cons_append, List.nil_append, reduceIte, Nat.reduceAdd, Nat.reduceSub, Nat.reduceEqDiff, true_and, and_true, Nat.reduceLeDiff, Nat.lt_irrefl, Nat.succ_ne_self, forall_const, ne_eq, not_true_eq_false, not_false_eq_true, false_implies, implies_true, true_implies, true_or, or_true, or_false, false_or, eq_self, Int.reduceEq, Int.reduceLT, Int.reduceLE, Int.reduceNeg, Int.reduceToNat, Int.reduceAdd, Int.reduceSub, Int.reduceMul, Int.reduceNe, and_self]
      refine q_passYear hQ1 t2 (yk q) (by omega) (fun υ u1 u2 => ?_)
      have t3 := t1.tr (u1.wk (fun _ _ _ q => SY1.c q))
      simp only [c_ic, c_lc, c_nul, c_il, c_ll, c_al, c_is, c_ls, c_as, c_inc, c_b2, c_b2n, c_b1, c_d2, c_d2n, c_dsh, c_i2l, c_l2i, c_lcm, c_dup, c_dup2, c_pop, c_j1, c_j2, c_jn, c_sw0, c_sw, c_gI, c_gL, c_gR, c_gS, c_pI, c_pZ, c_pL, c_pR, c_iald, c_ialg, c_iast, c_iasg, c_bald, c_bast, c_lald, c_last, c_aald, c_aals, c_aast, c_alen, c_bnd, c_str, c_bndl, c_bnln, c_sval, c_scod, c_sbal, c_sbln, c_fmt, c_stop, c_iret, c_zret, c_nret, c_aret, c_vret, c_lret, c_cpy, c_callV, c_callS, tkA, lget, lput, lkill, jpush, vsz, jcat, lins, lent, List.length_cons, List.length_nil, List.replicate, List.append_nil, List.cons_append, List.nil_append, reduceIte, Nat.reduceAdd, Nat.reduceSub, Nat.reduceEqDiff, true_and, and_true, Nat.reduceLeDiff, Nat.lt_irrefl, Nat.succ_ne_self, forall_const, ne_eq, not_true_eq_false, not_false_eq_true, false_implies, implies_true, true_implies, true_or, or_true, or_false, false_or, eq_self, Int.reduceEq, Int.reduceLT, Int.reduceLE, Int.reduceNeg, Int.reduceToNat, Int.reduceAdd, Int.reduceSub, Int.reduceMul, Int.reduceNe, and_self]
      refine ⟨fun w => ?_, fun w => ⟨⟨_, rfl⟩, ?_⟩⟩
      · refine ih (q + 1) υ (by omega) (fun p hp => ?_) t3 u2
        by_cases y : p = q
        · rw [y]; exact w
        · exact hb p (by omega)
      · exact mo q _ υ (by omega) hb (Or.inl ⟨by omega, Classical.not_not.mp w, rfl⟩) t3
  refine ok_WO_copyFrom (by decide) (fun τ t1 t2 => ?_)
  simp only [c_ic, c_lc, c_nul, c_il, c_ll, c_al, c_is, c_ls, c_as, c_inc, c_b2, c_b2n, c_b1, c_d2, c_d2n, c_dsh, c_i2l, c_l2i, c_lcm, c_dup, c_dup2, c_pop, c_j1, c_j2, c_jn, c_sw0, c_sw, c_gI, c_gL, c_gR, c_gS, c_pI, c_pZ, c_pL, c_pR, c_iald, c_ialg, c_iast, c_iasg, c_bald, c_bast, c_lald, c_last, c_aald, c_aals, c_aast, c_alen, c_bnd, c_str, c_bndl, c_bnln, c_sval, c_scod, c_sbal, c_sbln, c_fmt, c_stop, c_iret, c_zret, c_nret, c_aret, c_vret, c_lret, c_cpy, c_callV, c_callS, tkA, lget, lput, lkill, jpush, vsz, jcat, lins, lent, List.length_cons, List.length_nil, List.replicate, List.append_nil, List.cons_append, List.nil_append, reduceIte, Nat.reduceAdd, Nat.reduceSub, Nat.reduceEqDiff, true_and, and_true, Nat.reduceLeDiff, Nat.lt_irrefl, Nat.succ_ne_self, forall_const, ne_eq, not_true_eq_false, not_false_eq_true, false_implies, implies_true, true_implies, true_or, or_true, or_false, false_or, eq_self, Int.reduceEq, Int.reduceLT, Int.reduceLE, Int.reduceNeg, Int.reduceToNat, Int.reduceAdd, Int.reduceSub, Int.reduceMul, Int.reduceNe, and_self]
  have := key 60 0 τ rfl (fun p hp => absurd hp (Nat.not_lt_zero p)) (t1.wk (fun k j o q => by unfold SW at q; unfold Sc; omega)) (t2 K W K4 h19.2 h110.2 hC)
  exact this
