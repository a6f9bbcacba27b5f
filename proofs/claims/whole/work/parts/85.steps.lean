/-! ===== 85 steps: the law that holds, what can be, what is done ===== -/
theorem Ct.sub {d : Nat} {M : jMT} {as as' : List jV} {σ : jM} {Φ : jPh} (h : ∀ al, as'.map (vr al) = as.map (vr al)) (ho : ∀ D, oks D as' → oks D as) (hC : Ct d M as σ Φ) : Ct d M as' σ Φ := by
  intro l B hc hM ho'
  have e : PcX B as' σ = PcX B as σ := by unfold PcX; rw [h B.1]
  rw [e]
  exact hC l B hc hM (ho _ ho')
def lvz (la : Option Nat) : jV := match la with
  | none => .inr (.inr (0, none))
  | some l => .inr (.inr (3, some l))
theorem lvz_ok {D : List (Nat × Nat)} {la : Option Nat} (h : okv D (lvz la)) : okv D (lv la) := by
  cases la with
  | none => exact trivial
  | some l => exact h
theorem lvz_vr (al : Nat → Nat → Nat) (la : Option Nat) : vr al (lvz la) = vr al (lv la) := by cases la <;> rfl
def laO (v : Int) : Option Nat := if v < 0 then none else some v.toNat
def lwO (v : Int) (CL : Nat → List Int) : Option (List Int) := if v < 0 then none else some (CL v.toNat)
section LW
variable {σ : jM} {Φ : jPh} {d N : Nat} {CL : Nat → List Int} {v : Int}
theorem JK.lwc (h : JK σ N CL) (hM : MI σ N CL) (hv : σ.1 10 0 34 = v) : LWc σ (laO v) (lwO v CL) := by
  obtain ⟨-, -, -, h4, -, h6, h7⟩ := h
  rw [hv] at h6 h7
  unfold laO lwO
  by_cases z : v < 0
  · rw [if_pos z, if_pos z]
    exact Or.inl ⟨rfl, rfl⟩
  · rw [if_neg z, if_neg z]
    obtain ⟨n, T, b, -, -, -, ho⟩ := hM.1.2 v.toNat (by omega)
    exact Or.inr ⟨v.toNat, CL v.toNat, rfl, (h4 v.toNat (by omega)).2, ho, rfl⟩
theorem JK.lwm (h : JK σ N CL) (hv : σ.1 10 0 34 = v) : LWm σ N CL (lwO v CL) := by
  obtain ⟨-, -, -, -, -, h6, h7⟩ := h
  unfold LWm lwO
  rw [hv] at *
  by_cases z : v < 0
  · rw [if_pos z]
    exact Or.inl ⟨by omega, rfl⟩
  · rw [if_neg z]
    exact Or.inr ⟨v.toNat, by omega, by omega, rfl⟩
theorem ok_LB_ruling (h : JK σ N CL) (hM : N ≤ 4) (hv : σ.1 10 0 34 = v) (hp : Φ (some (lvz (laO v))) σ) : Ct (d + 1) M_LB_ruling [rf 9 0] σ Φ := by
  obtain ⟨-, -, -, h4, h5, h6, h7⟩ := h
  rw [hv] at h5 h6 h7
  refine i_LB_ruling (Nat.le_refl 1) ?_
  unfold laO at hp
  simp only [w_LB_ruling_32, w_LB_ruling_31, w_LB_ruling_0, c_ic, c_lc, c_nul, c_il, c_ll, c_al, c_is, c_ls, c_as, c_inc, c_b2, c_b2n, c_b1, c_d2, c_d2n, c_dsh, c_i2l, c_l2i, c_lcm, c_dup, c_dup2, c_pop, c_j1, c_j2, c_jn, c_sw0, c_sw, c_gI, c_gL, c_gR, c_gS, c_pI, c_pZ, c_pL, c_pR, c_iald, c_ialg, c_iast, c_iasg, c_bald, c_bast, c_lald, c_last, c_aald, c_aals, c_aast, c_alen, c_bnd, c_str, c_bndl, c_bnln, c_sval, c_scod, c_sbal, c_sbln, c_fmt, c_stop, c_iret, c_zret, c_nret, c_aret, c_vret, c_lret, c_cpy, c_callV, c_callS, tkA, lget, lput, lkill, jpush, vsz, jcat, lins, lent, List.length_cons, List.length_nil, List.replicate, List.append_nil, List.cons_append, List.nil_append, reduceIte, Nat.reduceAdd, Nat.reduceSub, Nat.reduceEqDiff, true_and, and_true, Nat.reduceLeDiff, Nat.lt_irrefl, Nat.succ_ne_self, forall_const, ne_eq, not_true_eq_false, not_false_eq_true, false_implies, implies_true, true_implies, true_or, or_true, or_false, false_or, eq_self, Int.reduceEq, Int.reduceLT, Int.reduceLE, Int.reduceNeg, Int.reduceToNat, Int.reduceAdd, Int.reduceSub, Int.reduceMul, Int.reduceNe, and_self, h5]
  have l49 : ((jln 49 0 : Nat) : Int) = 4 := rfl
  refine ⟨fun z => ?_, fun z => ⟨by decide, fun z2 => absurd z2 (by omega), fun z2 => ⟨by omega, ?_⟩⟩⟩
  · rwa [if_pos z] at hp
  · rw [if_neg z] at hp
    rw [(h4 v.toNat (by omega)).1]
    exact hp
end LW
theorem okz1 {D : List (Nat × Nat)} {a b : jV} {la : Option Nat} {t : List jV} (h : oks D (a :: b :: lvz la :: t)) : oks D (a :: b :: lv la :: t) :=
  oks_cons (oks_hd h) (oks_cons (oks_hd (oks_tl h)) (oks_cons (lvz_ok (oks_hd (oks_tl (oks_tl h)))) (oks_tl (oks_tl (oks_tl h)))))
theorem Ct.z {d : Nat} {M : jMT} {a b : jV} {la : Option Nat} {t : List jV} {σ : jM} {Φ : jPh} (h : Ct d M (a :: b :: lv la :: t) σ Φ) : Ct d M (a :: b :: lvz la :: t) σ Φ :=
  Ct.sub (fun al => by simp only [List.map_cons, lvz_vr]) (fun _ q => okz1 q) h
/-- whether a step can be -/
def canP (K : Nat) (W : Nat → Int) (kind k : Int) : Prop := (kind = 0 ∧ 0 < K ∧ W 18 < 999) ∨ ((0 ≤ k ∧ k < K) ∧ (kind = 1 ∨ (kind = 2 ∧ W (4 * k.toNat) < 30 ∧ 2 ≤ W 17) ∨ (kind = 3 ∧ W (4 * k.toNat + 2) < 9 ∧ 3 ≤ W 17) ∨ (kind = 4 ∧ 0 < W (4 * k.toNat + 1) ∧ 4 ≤ W 17)))
theorem ok_LB_canStep {σ : jM} {Φ : jPh} {d K F r j : Nat} {W : Nat → Int} {kind k : Int} (hR : JR σ K F r) (hC : CW σ j K W) (h1 : canP K W kind k → Φ (some (.inl 1)) σ) (h0 : ¬ canP K W kind k → Φ (some (.inl 0)) σ) : Ct (d + 2) M_LB_canStep [rf 9 0, rf 8 j, .inl kind, .inl k] σ Φ := by
  have K4 := hR.2.2.2.2.2.2.2.1
  obtain ⟨c1, c2, ⟨w1, w2, w3, w4⟩, -⟩ := hC
  refine i_LB_canStep (Nat.le_refl 4) ?_
  simp only [w_LB_canStep_143, w_LB_canStep_142, w_LB_canStep_141, w_LB_canStep_120, w_LB_canStep_119, w_LB_canStep_118, w_LB_canStep_95, w_LB_canStep_94, w_LB_canStep_93, w_LB_canStep_70, w_LB_canStep_68, w_LB_canStep_37, w_LB_canStep_27, w_LB_canStep_26, w_LB_canStep_25, w_LB_canStep_0, c_ic, c_lc, c_nul, c_il, c_ll, c_al, c_is, c_ls, c_as, c_inc, c_b2, c_b2n, c_b1, c_d2, c_d2n, c_dsh, c_i2l, c_l2i, c_lcm, c_dup, c_dup2, c_pop, c_j1, c_j2, c_jn, c_sw0, c_sw, c_gI, c_gL, c_gR, c_gS, c_pI, c_pZ, c_pL, c_pR, c_iald, c_ialg, c_iast, c_iasg, c_bald, c_bast, c_lald, c_last, c_aald, c_aals, c_aast, c_alen, c_bnd, c_str, c_bndl, c_bnln, c_sval, c_scod, c_sbal, c_sbln, c_fmt, c_stop, c_iret, c_zret, c_nret, c_aret, c_vret, c_lret, c_cpy, c_callV, c_callS, tkA, lget, lput, lkill, jpush, vsz, jcat, lins, lent, List.length_cons, List.length_nil, List.replicate, List.append_nil, List.cons_append, List.nil_append, reduceIte, Nat.reduceAdd, Nat.reduceSub, Nat.reduceEqDiff, true_and, and_true, Nat.reduceLeDiff, Nat.lt_irrefl, Nat.succ_ne_self, forall_const, ne_eq, not_true_eq_false, not_false_eq_true, false_implies, implies_true, true_implies, true_or, or_true, or_false, false_or, eq_self, Int.reduceEq, Int.reduceLT, Int.reduceLE, Int.reduceNeg, Int.reduceToNat, Int.reduceAdd, Int.reduceSub, Int.reduceMul, Int.reduceNe, and_self]
  refine ⟨fun z => ?_, fun z => ?_⟩
  · refine ok_LB_isKingdom hR ?_
    simp only [c_ic, c_lc, c_nul, c_il, c_ll, c_al, c_is, c_ls, c_as, c_inc, c_b2, c_b2n, c_b1, c_d2, c_d2n, c_dsh, c_i2l, c_l2i, c_lcm, c_dup, c_dup2, c_pop, c_j1, c_j2, c_jn, c_sw0, c_sw, c_gI, c_gL, c_gR, c_gS, c_pI, c_pZ, c_pL, c_pR, c_iald, c_ialg, c_iast, c_iasg, c_bald, c_bast, c_lald, c_last, c_aald, c_aals, c_aast, c_alen, c_bnd, c_str, c_bndl, c_bnln, c_sval, c_scod, c_sbal, c_sbln, c_fmt, c_stop, c_iret, c_zret, c_nret, c_aret, c_vret, c_lret, c_cpy, c_callV, c_callS, tkA, lget, lput, lkill, jpush, vsz, jcat, lins, lent, List.length_cons, List.length_nil, List.replicate, List.append_nil, List.cons_append, List.nil_append, reduceIte, Nat.reduceAdd, Nat.reduceSub, Nat.reduceEqDiff, true_and, and_true, Nat.reduceLeDiff, Nat.lt_irrefl, Nat.succ_ne_self, forall_const, ne_eq, not_true_eq_false, not_false_eq_true, false_implies, implies_true, true_implies, true_or, or_true, or_false, false_or, eq_self, Int.reduceEq, Int.reduceLT, Int.reduceLE, Int.reduceNeg, Int.reduceToNat, Int.reduceAdd, Int.reduceSub, Int.reduceMul, Int.reduceNe, and_self, w3]
    refine ⟨fun y => ?_, fun y => h0 ?_⟩
    · have y1 : 0 ≤ k ∧ k < K := Classical.byContradiction (fun w => y (if_neg w))
      obtain ⟨i, rfl⟩ := Int.eq_ofNat_of_zero_le y1.1
      obtain ⟨m1, m2, m3⟩ := c1 i (by omega)
      unfold canP at h1 h0
      simp only [Int.toNat_natCast] at h1 h0 ⊢
      rw [m1, m2, m3]
      refine ⟨fun z1 => h1 (by omega), fun z1 => ⟨fun z2 => ⟨⟨by omega, by omega⟩, fun z3 => h0 (by omega), fun z3 => ⟨fun z4 => h0 (by omega), fun z4 => h1 (by omega)⟩⟩, fun z2 => ⟨fun z3 => ⟨⟨by omega, by omega⟩, fun z4 => h0 (by omega), fun z4 => ⟨fun z5 => h0 (by omega), fun z5 => h1 (by omega)⟩⟩, fun z3 => ⟨fun z4 => ⟨⟨by omega, by omega⟩, fun z5 => h0 (by omega), fun z5 => ⟨fun z6 => h0 (by omega), fun z6 => h1 (by omega)⟩⟩, fun z4 => h0 (by omega)⟩⟩⟩⟩
    · intro w
      unfold canP at w
      have y2 : ¬ (0 ≤ k ∧ k < K) := fun q => y (by rw [if_pos q]; decide)
      omega
  · refine ok_LB_hasRealm hR ?_
    simp only [c_ic, c_lc, c_nul, c_il, c_ll, c_al, c_is, c_ls, c_as, c_inc, c_b2, c_b2n, c_b1, c_d2, c_d2n, c_dsh, c_i2l, c_l2i, c_lcm, c_dup, c_dup2, c_pop, c_j1, c_j2, c_jn, c_sw0, c_sw, c_gI, c_gL, c_gR, c_gS, c_pI, c_pZ, c_pL, c_pR, c_iald, c_ialg, c_iast, c_iasg, c_bald, c_bast, c_lald, c_last, c_aald, c_aals, c_aast, c_alen, c_bnd, c_str, c_bndl, c_bnln, c_sval, c_scod, c_sbal, c_sbln, c_fmt, c_stop, c_iret, c_zret, c_nret, c_aret, c_vret, c_lret, c_cpy, c_callV, c_callS, tkA, lget, lput, lkill, jpush, vsz, jcat, lins, lent, List.length_cons, List.length_nil, List.replicate, List.append_nil, List.cons_append, List.nil_append, reduceIte, Nat.reduceAdd, Nat.reduceSub, Nat.reduceEqDiff, true_and, and_true, Nat.reduceLeDiff, Nat.lt_irrefl, Nat.succ_ne_self, forall_const, ne_eq, not_true_eq_false, not_false_eq_true, false_implies, implies_true, true_implies, true_or, or_true, or_false, false_or, eq_self, Int.reduceEq, Int.reduceLT, Int.reduceLE, Int.reduceNeg, Int.reduceToNat, Int.reduceAdd, Int.reduceSub, Int.reduceMul, Int.reduceNe, and_self, w4]
    unfold canP at h1 h0
    refine ⟨fun y => h0 ?_, fun y => ⟨fun z1 => h0 (by omega), fun z1 => h1 ?_⟩⟩
    · have : ¬ 0 < K := fun q => by rw [if_pos q] at y; exact absurd y (by decide)
      omega
    · have : 0 < K := Classical.byContradiction (fun q => y (if_neg q))
      omega
/-- what a step of hold, arm, teach, swear does -/
def spS (W : Nat → Int) (k what : Nat) (price : Int) : Nat → Int := up (up W 17 (W 17 - price)) (4 * k + what) (W (4 * k + what) + if what = 1 then -1 else 1)
def tkS (kind : Int) (k : Nat) (W : Nat → Int) : Nat → Int := if kind = 1 then up W 16 (jxor (W 16) (jshl 1 k)) else if kind = 2 then spS W k 0 2 else if kind = 3 then spS W k 2 3 else spS W k 1 4
def stp (lw : Option (List Int)) (ru0 : Int) (G : Nat → Int) (F : Nat) (kind k : Int) (W : Nat → Int) : Nat → Int := if kind = 0 then yW ru0 G W (fld W F) (sidN lw G W (fld W F)) else tkS kind k.toNat W
def stB (lw : Option (List Int)) (G : Nat → Int) (F : Nat) (kind : Int) (W : Nat → Int) : Int := if kind = 0 then yBt G (fld W F) (sidN lw G W (fld W F)) else -1
theorem up_comm {W : Nat → Int} {p q : Nat} {v w : Int} (h : p ≠ q) : up (up W p v) q w = up (up W q w) p v := by
  funext o
  simp only [up_at]
  repeat' split
  all_goals first | rfl | omega
theorem xor_b : ∀ x : Nat, x < 16 → ∀ k : Nat, k < 4 → ∀ i : Nat, i < 4 → bt (jxor x (jshl 1 k)) i = if i = k then 1 - bt x k else bt x i := by decide +kernel
theorem xor_r : ∀ K : Nat, K ≤ 4 → ∀ x : Nat, x < 2 ^ K → ∀ k : Nat, k < K → 0 ≤ jxor x (jshl 1 k) ∧ jxor x (jshl 1 k) < 2 ^ K := by decide +kernel
theorem CW.hold {σ : jM} {j K : Nat} {W : Nat → Int} (h : CW σ j K W) (hx : 0 ≤ W 16 ∧ W 16 < 16) {k : Nat} (hk : k < 4) (hK : K ≤ 4) : CW (sI σ 45 j k (1 - bt (W 16) k)) j K (up W 16 (jxor (W 16) (jshl 1 k))) := by
  obtain ⟨h1, h2, h3, h4, h5⟩ := h
  obtain ⟨x, hx2⟩ := Int.eq_ofNat_of_zero_le hx.1
  rw [hx2] at hx ⊢
  have hb := xor_b x (by omega) k hk
  refine ⟨fun i hi => ?_, fun i hi => ?_, ?_, fun i hi => ?_, fun i hi => ?_⟩
  · rw [up_ne (by omega), up_ne (by omega), up_ne (by omega)]
    exact h1 i hi
  · have := h2 i hi
    rw [pgs_up (by omega), up_ne (by omega), up_eq, hb i hi]
    simp only [g_sI, Nat.reduceEqDiff, false_and, if_false, true_and]
    refine ⟨this.1, ?_, this.2.2⟩
    split
    · rfl
    · rw [this.2.1, hx2]
  · rw [up_ne (by omega), up_ne (by omega), up_ne (by omega), up_ne (by omega)]; exact h3
  · rw [up_ne (by omega)] at hi
    rw [up_ne (by omega), up_ne (by omega), up_ne (by omega)]; exact h4 i hi
  · rw [up_ne (by omega)] at hi
    rw [up_ne (by omega), up_ne (by omega), up_ne (by omega)]; exact h5 i hi
theorem pow_16 {K : Nat} {x : Int} (hK : K ≤ 4) (h : 0 ≤ x ∧ x < 2 ^ K) : 0 ≤ x ∧ x < 16 := by have := pow2_le hK; omega
theorem ok_LB_takeStep {σ : jM} {Φ : jPh} {d K F r j N : Nat} {CL : Nat → List Int} {W ru G : Nat → Int} {kind k Y v : Int} (hR : JR σ K F r) (hru : σ.1 63 0 = ru) (hg : σ.1 66 0 = G) (hL : JK σ N CL) (hM : MI σ N CL) (hv : σ.1 10 0 34 = v) (hC : CW σ j K W) (hW : WW K Y W) (hY : Y ≤ 1998) (hp : canP K W kind k) (h : ∀ τ, Fr (SY j) σ τ → CW τ j K (stp (lwO v CL) (ru 0) G F kind k W) → Φ (some (.inl (stB (lwO v CL) G F kind W))) τ) : Ct (d + 6) M_LB_takeStep [rf 9 0, rf 8 j, .inl kind, .inl k] σ Φ := by
  obtain ⟨q1, -, -, -, -, -, -, K4, F8, q6⟩ := id hR
  rw [hru, hg] at q6
  refine i_LB_takeStep (Nat.le_refl 4) ?_
  simp only [w_LB_takeStep_146, w_LB_takeStep_123, w_LB_takeStep_100, w_LB_takeStep_77, w_LB_takeStep_60, w_LB_takeStep_27, w_LB_takeStep_17, w_LB_takeStep_0, c_ic, c_lc, c_nul, c_il, c_ll, c_al, c_is, c_ls, c_as, c_inc, c_b2, c_b2n, c_b1, c_d2, c_d2n, c_dsh, c_i2l, c_l2i, c_lcm, c_dup, c_dup2, c_pop, c_j1, c_j2, c_jn, c_sw0, c_sw, c_gI, c_gL, c_gR, c_gS, c_pI, c_pZ, c_pL, c_pR, c_iald, c_ialg, c_iast, c_iasg, c_bald, c_bast, c_lald, c_last, c_aald, c_aals, c_aast, c_alen, c_bnd, c_str, c_bndl, c_bnln, c_sval, c_scod, c_sbal, c_sbln, c_fmt, c_stop, c_iret, c_zret, c_nret, c_aret, c_vret, c_lret, c_cpy, c_callV, c_callS, tkA, lget, lput, lkill, jpush, vsz, jcat, lins, lent, List.length_cons, List.length_nil, List.replicate, List.append_nil, List.cons_append, List.nil_append, reduceIte, Nat.reduceAdd, Nat.reduceSub, Nat.reduceEqDiff, true_and, and_true, Nat.reduceLeDiff, Nat.lt_irrefl, Nat.succ_ne_self, forall_const, ne_eq, not_true_eq_false, not_false_eq_true, false_implies, implies_true, true_implies, true_or, or_true, or_false, false_or, eq_self, Int.reduceEq, Int.reduceLT, Int.reduceLE, Int.reduceNeg, Int.reduceToNat, Int.reduceAdd, Int.reduceSub, Int.reduceMul, Int.reduceNe, and_self, q1]
  refine ⟨fun z => ?_, fun z => ?_⟩
  · refine ok_LB_isKingdom hR ?_
    have hk : 0 ≤ k ∧ k < K := by unfold canP at hp; omega
    obtain ⟨i, rfl⟩ := Int.eq_ofNat_of_zero_le hk.1
    rw [if_pos hk]
    obtain ⟨c1, c2, ⟨w1, w2, w3, w4⟩, -⟩ := id hC
    obtain ⟨m1, m2, m3⟩ := c1 i (by omega)
    obtain ⟨-, m5, -⟩ := c2 i (by omega)
    obtain ⟨x1, x2, x3⟩ := hW.1 i (by omega)
    have x17 := hW.2.2.2.1
    have x16 := pow_16 K4 hW.2.2.1
    have hb := bt_in (W 16) i
    have e5 : wr (1 - bt (W 16) i) = 1 - bt (W 16) i := wr_id (by omega) (by omega)
    have eM : wr (W (4 * i) + 1) = W (4 * i) + 1 := wr_id (by omega) (by omega)
    have eS : wr (W (4 * i + 2) + 1) = W (4 * i + 2) + 1 := wr_id (by omega) (by omega)
    have eB : wr (W (4 * i + 1) - 1) = W (4 * i + 1) - 1 := wr_id (by omega) (by omega)
    have e2 : wr (W 17 - 2) = W 17 - 2 := wr_id (by omega) (by omega)
    have e3 : wr (W 17 - 3) = W 17 - 3 := wr_id (by omega) (by omega)
    have e4 : wr (W 17 - 4) = W 17 - 4 := wr_id (by omega) (by omega)
    unfold stp stB at h
    rw [if_neg z] at h
    simp only [if_neg z, Int.toNat_natCast] at h
    unfold canP at hp
    simp only [c_ic, c_lc, c_nul, c_il, c_ll, c_al, c_is, c_ls, c_as, c_inc, c_b2, c_b2n, c_b1, c_d2, c_d2n, c_dsh, c_i2l, c_l2i, c_lcm, c_dup, c_dup2, c_pop, c_j1, c_j2, c_jn, c_sw0, c_sw, c_gI, c_gL, c_gR, c_gS, c_pI, c_pZ, c_pL, c_pR, c_iald, c_ialg, c_iast, c_iasg, c_bald, c_bast, c_lald, c_last, c_aald, c_aals, c_aast, c_alen, c_bnd, c_str, c_bndl, c_bnln, c_sval, c_scod, c_sbal, c_sbln, c_fmt, c_stop, c_iret, c_zret, c_nret, c_aret, c_vret, c_lret, c_cpy, c_callV, c_callS, tkA, lget, lput, lkill, jpush, vsz, jcat, lins, lent, List.length_cons, List.length_nil, List.replicate, List.append_nil, List.cons_append, List.nil_append, reduceIte, Nat.reduceAdd, Nat.reduceSub, Nat.reduceEqDiff, true_and, and_true, Nat.reduceLeDiff, Nat.lt_irrefl, Nat.succ_ne_self, forall_const, ne_eq, not_true_eq_false, not_false_eq_true, false_implies, implies_true, true_implies, true_or, or_true, or_false, false_or, eq_self, Int.reduceEq, Int.reduceLT, Int.reduceLE, Int.reduceNeg, Int.reduceToNat, Int.reduceAdd, Int.reduceSub, Int.reduceMul, Int.reduceNe, and_self, g_sI, g_sI2, g_sL1, g_sL, g_sL2, g_sR1, g_sR2, g_sR, g_sA, g_sA2, and_false, false_and, and_self, if_false, if_true, Int.toNat_natCast, m1, m2, m3, m5, w3, e5, eM, eS, eB, e2, e3, e4]
    refine ⟨fun z1 => ?_, fun z1 => ⟨fun z2 => ?_, fun z2 => ⟨fun z3 => ?_, fun z3 => ⟨fun z4 => ?_, fun z4 => absurd hp (by omega)⟩⟩⟩⟩
    · refine ⟨⟨by omega, by omega⟩, ⟨by omega, by omega⟩, h _ (Fr.rf.sI (Or.inl (SWi (by decide)))) ?_⟩
      unfold tkS
      rw [if_pos z1]
      exact hC.hold x16 (by omega) K4
    · refine ⟨⟨by omega, by omega⟩, ⟨by omega, by omega⟩, h _ ((Fr.rf.sI (Or.inl (SWi (by decide)))).sI (Or.inl (SWi (by decide)))) ?_⟩
      unfold tkS spS
      rw [if_neg z1, if_pos z2, if_neg (by decide), up_comm (by omega)]
      exact (hC.might (by omega)).coins K4
    · refine ⟨⟨by omega, by omega⟩, ⟨by omega, by omega⟩, h _ ((Fr.rf.sI (Or.inl (SWi (by decide)))).sI (Or.inl (SWi (by decide)))) ?_⟩
      unfold tkS spS
      rw [if_neg z1, if_neg z2, if_pos z3, if_neg (by decide), up_comm (by omega)]
      exact (hC.style (by omega)).coins K4
    · refine ⟨⟨by omega, by omega⟩, ⟨by omega, by omega⟩, h _ ((Fr.rf.sI (Or.inl (SWi (by decide)))).sI (Or.inl (SWi (by decide)))) ?_⟩
      unfold tkS spS
      rw [if_neg z1, if_neg z2, if_neg z3, if_pos rfl, up_comm (by omega)]
      exact (hC.bias (by omega)).coins K4
  · refine ok_LB_ruling hL hM.1.1 hv ?_
    have z : kind = 0 := by omega
    have hK : 0 < K := by unfold canP at hp; omega
    rcases q6 with q6 | ⟨q6, q7⟩
    · omega
    simp only [c_ic, c_lc, c_nul, c_il, c_ll, c_al, c_is, c_ls, c_as, c_inc, c_b2, c_b2n, c_b1, c_d2, c_d2n, c_dsh, c_i2l, c_l2i, c_lcm, c_dup, c_dup2, c_pop, c_j1, c_j2, c_jn, c_sw0, c_sw, c_gI, c_gL, c_gR, c_gS, c_pI, c_pZ, c_pL, c_pR, c_iald, c_ialg, c_iast, c_iasg, c_bald, c_bast, c_lald, c_last, c_aald, c_aals, c_aast, c_alen, c_bnd, c_str, c_bndl, c_bnln, c_sval, c_scod, c_sbal, c_sbln, c_fmt, c_stop, c_iret, c_zret, c_nret, c_aret, c_vret, c_lret, c_cpy, c_callV, c_callS, tkA, lget, lput, lkill, jpush, vsz, jcat, lins, lent, List.length_cons, List.length_nil, List.replicate, List.append_nil, List.cons_append, List.nil_append, reduceIte, Nat.reduceAdd, Nat.reduceSub, Nat.reduceEqDiff, true_and, and_true, Nat.reduceLeDiff, Nat.lt_irrefl, Nat.succ_ne_self, forall_const, ne_eq, not_true_eq_false, not_false_eq_true, false_implies, implies_true, true_implies, true_or, or_true, or_false, false_or, eq_self, Int.reduceEq, Int.reduceLT, Int.reduceLE, Int.reduceNeg, Int.reduceToNat, Int.reduceAdd, Int.reduceSub, Int.reduceMul, Int.reduceNe, and_self]
    refine Ct.z (ok_WO_passYear hC (hL.lwc hM hv) q7 q6 hW hY (fun τ t1 t2 => ?_))
    simp only [c_ic, c_lc, c_nul, c_il, c_ll, c_al, c_is, c_ls, c_as, c_inc, c_b2, c_b2n, c_b1, c_d2, c_d2n, c_dsh, c_i2l, c_l2i, c_lcm, c_dup, c_dup2, c_pop, c_j1, c_j2, c_jn, c_sw0, c_sw, c_gI, c_gL, c_gR, c_gS, c_pI, c_pZ, c_pL, c_pR, c_iald, c_ialg, c_iast, c_iasg, c_bald, c_bast, c_lald, c_last, c_aald, c_aals, c_aast, c_alen, c_bnd, c_str, c_bndl, c_bnln, c_sval, c_scod, c_sbal, c_sbln, c_fmt, c_stop, c_iret, c_zret, c_nret, c_aret, c_vret, c_lret, c_cpy, c_callV, c_callS, tkA, lget, lput, lkill, jpush, vsz, jcat, lins, lent, List.length_cons, List.length_nil, List.replicate, List.append_nil, List.cons_append, List.nil_append, reduceIte, Nat.reduceAdd, Nat.reduceSub, Nat.reduceEqDiff, true_and, and_true, Nat.reduceLeDiff, Nat.lt_irrefl, Nat.succ_ne_self, forall_const, ne_eq, not_true_eq_false, not_false_eq_true, false_implies, implies_true, true_implies, true_or, or_true, or_false, false_or, eq_self, Int.reduceEq, Int.reduceLT, Int.reduceLE, Int.reduceNeg, Int.reduceToNat, Int.reduceAdd, Int.reduceSub, Int.reduceMul, Int.reduceNe, and_self]
    have h := h τ t1
    unfold stp stB at h
    rw [if_pos z, if_pos z] at h
    exact h t2
theorem ok_LB_act {σ : jM} {Φ : jPh} {d K F r N : Nat} {CL : Nat → List Int} {U : List (Nat → Int)} {W ru G : Nat → Int} {kind k Y v : Int} (hR : JR σ K F r) (hru : σ.1 63 0 = ru) (hg : σ.1 66 0 = G) (hL : JK σ N CL) (hM : MI σ N CL) (hv : σ.1 10 0 34 = v) (hA : AK σ K U) (hC : CW σ 0 K W) (hW : WW K Y W) (hY : Y ≤ 1998) (h0 : ¬ canP K W kind k → Φ (some (.inl 0)) σ) (h : canP K W kind k → ∀ τ, Fr (fun k j o => SAk k j o ∨ SY 0 k j o) σ τ → AK τ K (keepU U W) → CW τ 0 K (stp (lwO v CL) (ru 0) G F kind k W) → Φ (some (.inl 1)) τ) : Ct (d + 7) M_LB_act [rf 9 0, .inl kind, .inl k] σ Φ := by
  have K4 := hR.2.2.2.2.2.2.2.1
  have r2 := hR.2.2.1
  refine i_LB_act (Nat.le_refl 3) ?_
  simp only [w_LB_act_15, w_LB_act_0, c_ic, c_lc, c_nul, c_il, c_ll, c_al, c_is, c_ls, c_as, c_inc, c_b2, c_b2n, c_b1, c_d2, c_d2n, c_dsh, c_i2l, c_l2i, c_lcm, c_dup, c_dup2, c_pop, c_j1, c_j2, c_jn, c_sw0, c_sw, c_gI, c_gL, c_gR, c_gS, c_pI, c_pZ, c_pL, c_pR, c_iald, c_ialg, c_iast, c_iasg, c_bald, c_bast, c_lald, c_last, c_aald, c_aals, c_aast, c_alen, c_bnd, c_str, c_bndl, c_bnln, c_sval, c_scod, c_sbal, c_sbln, c_fmt, c_stop, c_iret, c_zret, c_nret, c_aret, c_vret, c_lret, c_cpy, c_callV, c_callS, tkA, lget, lput, lkill, jpush, vsz, jcat, lins, lent, List.length_cons, List.length_nil, List.replicate, List.append_nil, List.cons_append, List.nil_append, reduceIte, Nat.reduceAdd, Nat.reduceSub, Nat.reduceEqDiff, true_and, and_true, Nat.reduceLeDiff, Nat.lt_irrefl, Nat.succ_ne_self, forall_const, ne_eq, not_true_eq_false, not_false_eq_true, false_implies, implies_true, true_implies, true_or, or_true, or_false, false_or, eq_self, Int.reduceEq, Int.reduceLT, Int.reduceLE, Int.reduceNeg, Int.reduceToNat, Int.reduceAdd, Int.reduceSub, Int.reduceMul, Int.reduceNe, and_self]
  refine ok_LB_canStep hR hC (fun hp => ?_) (fun hp => ?_)
  · simp only [c_ic, c_lc, c_nul, c_il, c_ll, c_al, c_is, c_ls, c_as, c_inc, c_b2, c_b2n, c_b1, c_d2, c_d2n, c_dsh, c_i2l, c_l2i, c_lcm, c_dup, c_dup2, c_pop, c_j1, c_j2, c_jn, c_sw0, c_sw, c_gI, c_gL, c_gR, c_gS, c_pI, c_pZ, c_pL, c_pR, c_iald, c_ialg, c_iast, c_iasg, c_bald, c_bast, c_lald, c_last, c_aald, c_aals, c_aast, c_alen, c_bnd, c_str, c_bndl, c_bnln, c_sval, c_scod, c_sbal, c_sbln, c_fmt, c_stop, c_iret, c_zret, c_nret, c_aret, c_vret, c_lret, c_cpy, c_callV, c_callS, tkA, lget, lput, lkill, jpush, vsz, jcat, lins, lent, List.length_cons, List.length_nil, List.replicate, List.append_nil, List.cons_append, List.nil_append, reduceIte, Nat.reduceAdd, Nat.reduceSub, Nat.reduceEqDiff, true_and, and_true, Nat.reduceLeDiff, Nat.lt_irrefl, Nat.succ_ne_self, forall_const, ne_eq, not_true_eq_false, not_false_eq_true, false_implies, implies_true, true_implies, true_or, or_true, or_false, false_or, eq_self, Int.reduceEq, Int.reduceLT, Int.reduceLE, Int.reduceNeg, Int.reduceToNat, Int.reduceAdd, Int.reduceSub, Int.reduceMul, Int.reduceNe, and_self]
    refine ok_AC_keep K4 hA hC hW (fun τ t1 t2 => ?_)
    simp only [c_ic, c_lc, c_nul, c_il, c_ll, c_al, c_is, c_ls, c_as, c_inc, c_b2, c_b2n, c_b1, c_d2, c_d2n, c_dsh, c_i2l, c_l2i, c_lcm, c_dup, c_dup2, c_pop, c_j1, c_j2, c_jn, c_sw0, c_sw, c_gI, c_gL, c_gR, c_gS, c_pI, c_pZ, c_pL, c_pR, c_iald, c_ialg, c_iast, c_iasg, c_bald, c_bast, c_lald, c_last, c_aald, c_aals, c_aast, c_alen, c_bnd, c_str, c_bndl, c_bnln, c_sval, c_scod, c_sbal, c_sbln, c_fmt, c_stop, c_iret, c_zret, c_nret, c_aret, c_vret, c_lret, c_cpy, c_callV, c_callS, tkA, lget, lput, lkill, jpush, vsz, jcat, lins, lent, List.length_cons, List.length_nil, List.replicate, List.append_nil, List.cons_append, List.nil_append, reduceIte, Nat.reduceAdd, Nat.reduceSub, Nat.reduceEqDiff, true_and, and_true, Nat.reduceLeDiff, Nat.lt_irrefl, Nat.succ_ne_self, forall_const, ne_eq, not_true_eq_false, not_false_eq_true, false_implies, implies_true, true_implies, true_or, or_true, or_false, false_or, eq_self, Int.reduceEq, Int.reduceLT, Int.reduceLE, Int.reduceNeg, Int.reduceToNat, Int.reduceAdd, Int.reduceSub, Int.reduceMul, Int.reduceNe, and_self]
    have e63 : τ.1 63 0 = σ.1 63 0 := t1.row (fun o w => by unfold SAk at w; omega)
    have e66 : τ.1 66 0 = σ.1 66 0 := t1.row (fun o w => by unfold SAk at w; omega)
    have hC1 : CW τ 0 K W := hC.fr t1 (fun k o q w => by unfold SAk at w; omega)
    refine ok_LB_takeStep (hR.fr t1 ?_) (e63.trans hru) (e66.trans hg) (hL.fr t1 ?_) (hM.fr t1 ?_) (v := v) ((t1.i (by unfold SAk; omega)).trans hv) hC1 hW hY hp (fun υ u1 u2 => ?_)
    · intro k j o q w; simp only [fR, SAk] at q w; omega
    · intro k j o q w; simp only [fK, SAk] at q w; omega
    · intro k j o q w; simp only [fM, SAk] at q w; omega
    · simp only [c_ic, c_lc, c_nul, c_il, c_ll, c_al, c_is, c_ls, c_as, c_inc, c_b2, c_b2n, c_b1, c_d2, c_d2n, c_dsh, c_i2l, c_l2i, c_lcm, c_dup, c_dup2, c_pop, c_j1, c_j2, c_jn, c_sw0, c_sw, c_gI, c_gL, c_gR, c_gS, c_pI, c_pZ, c_pL, c_pR, c_iald, c_ialg, c_iast, c_iasg, c_bald, c_bast, c_lald, c_last, c_aald, c_aals, c_aast, c_alen, c_bnd, c_str, c_bndl, c_bnln, c_sval, c_scod, c_sbal, c_sbln, c_fmt, c_stop, c_iret, c_zret, c_nret, c_aret, c_vret, c_lret, c_cpy, c_callV, c_callS, tkA, lget, lput, lkill, jpush, vsz, jcat, lins, lent, List.length_cons, List.length_nil, List.replicate, List.append_nil, List.cons_append, List.nil_append, reduceIte, Nat.reduceAdd, Nat.reduceSub, Nat.reduceEqDiff, true_and, and_true, Nat.reduceLeDiff, Nat.lt_irrefl, Nat.succ_ne_self, forall_const, ne_eq, not_true_eq_false, not_false_eq_true, false_implies, implies_true, true_implies, true_or, or_true, or_false, false_or, eq_self, Int.reduceEq, Int.reduceLT, Int.reduceLE, Int.reduceNeg, Int.reduceToNat, Int.reduceAdd, Int.reduceSub, Int.reduceMul, Int.reduceNe, and_self]
      refine h hp υ ((t1.wk (fun _ _ _ q => Or.inl q)).tr (u1.wk (fun _ _ _ q => Or.inr q))) (t2.fr u1 ?_) u2
      intro k j o q w; simp only [fC, SY, SW, SP] at q w; omega
  · simp only [c_ic, c_lc, c_nul, c_il, c_ll, c_al, c_is, c_ls, c_as, c_inc, c_b2, c_b2n, c_b1, c_d2, c_d2n, c_dsh, c_i2l, c_l2i, c_lcm, c_dup, c_dup2, c_pop, c_j1, c_j2, c_jn, c_sw0, c_sw, c_gI, c_gL, c_gR, c_gS, c_pI, c_pZ, c_pL, c_pR, c_iald, c_ialg, c_iast, c_iasg, c_bald, c_bast, c_lald, c_last, c_aald, c_aals, c_aast, c_alen, c_bnd, c_str, c_bndl, c_bnln, c_sval, c_scod, c_sbal, c_sbln, c_fmt, c_stop, c_iret, c_zret, c_nret, c_aret, c_vret, c_lret, c_cpy, c_callV, c_callS, tkA, lget, lput, lkill, jpush, vsz, jcat, lins, lent, List.length_cons, List.length_nil, List.replicate, List.append_nil, List.cons_append, List.nil_append, reduceIte, Nat.reduceAdd, Nat.reduceSub, Nat.reduceEqDiff, true_and, and_true, Nat.reduceLeDiff, Nat.lt_irrefl, Nat.succ_ne_self, forall_const, ne_eq, not_true_eq_false, not_false_eq_true, false_implies, implies_true, true_implies, true_or, or_true, or_false, false_or, eq_self, Int.reduceEq, Int.reduceLT, Int.reduceLE, Int.reduceNeg, Int.reduceToNat, Int.reduceAdd, Int.reduceSub, Int.reduceMul, Int.reduceNe, and_self]
    exact h0 hp
