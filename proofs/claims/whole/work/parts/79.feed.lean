/-! ===== 79 bytes of ints (rows b_.. begun from the kit's BITS, fa_byte_low from its NUMBERS); the tape is fed ===== -/
def bbt (x : Int32) (i : Nat) : Bool := x.toBitVec.getLsbD i
theorem bb_ext {x y : Int32} (h : ∀ i, i < 32 → bbt x i = bbt y i) : x = y := Int32.toBitVec_inj.mp (BitVec.eq_of_getLsbD_eq (fun i hi => h i hi))
theorem bb_and (x y : Int32) (i : Nat) : bbt (x &&& y) i = (bbt x i && bbt y i) := by unfold bbt; rw [Int32.toBitVec_and, BitVec.getLsbD_and]
theorem bb_big {x : Int32} {i : Nat} (h : 32 ≤ i) : bbt x i = false := BitVec.getLsbD_of_ge _ _ h
theorem bb_255 (i : Nat) : bbt 255 i = decide (i < 8) := by
  rcases Nat.lt_or_ge i 32 with h | h
  · exact (by decide +kernel : ∀ i, i < 32 → bbt 255 i = decide (i < 8)) i h
  · rw [bb_big h, decide_eq_false (by omega)]
theorem bs_l : ∀ n, n < 32 → ((nI n &&& 31).toBitVec.smod 32).toNat = n := by decide +kernel
theorem bs_u : ∀ n, n < 32 → (((nI n).toUInt32 &&& Int32.toUInt32 31).toBitVec % 32).toNat = n := by decide +kernel
theorem bb_ushr (n : Nat) (hn : n < 32) (x : Int32) (i : Nat) : bbt ((x.toUInt32 >>> ((nI n).toUInt32 &&& Int32.toUInt32 31)).toInt32) i = bbt x (n + i) := by
  show (x.toUInt32 >>> ((nI n).toUInt32 &&& Int32.toUInt32 31)).toBitVec.getLsbD i = x.toUInt32.toBitVec.getLsbD (n + i)
  rw [UInt32.toBitVec_shiftRight]
  show (x.toUInt32.toBitVec >>> (((nI n).toUInt32 &&& Int32.toUInt32 31).toBitVec % 32).toNat).getLsbD i = _
  rw [bs_u n hn, BitVec.getLsbD_ushiftRight]
theorem bb_sshr (n : Nat) (hn : n < 32) (x : Int32) {i : Nat} (hi : i < 32) : bbt (x >>> (nI n &&& 31)) i = if n + i < 32 then bbt x (n + i) else bbt x 31 := by
  unfold bbt
  rw [Int32.toBitVec_shiftRight]
  show (x.toBitVec.sshiftRight ((nI n &&& 31).toBitVec.smod 32).toNat).getLsbD i = _
  rw [bs_l n hn, BitVec.getLsbD_sshiftRight, BitVec.msb_eq_getLsbD_last]
  simp [hi]
theorem ba_low (x : Int32) : (x &&& 255).toInt8 = x.toInt8 := by
  apply Int8.toBitVec_inj.1
  apply BitVec.eq_of_getLsbD_eq
  intro i hi
  have h2 : (255 : Int32).toBitVec.getLsbD i = true := by
    have : ∀ j : Fin 8, (255 : Int32).toBitVec.getLsbD j.val = true := by decide +kernel
    exact this ⟨i, hi⟩
  have h4 : (x &&& 255).toBitVec.getLsbD i = x.toBitVec.getLsbD i := by
    show (x.toBitVec &&& (255 : Int32).toBitVec).getLsbD i = _
    rw [BitVec.getLsbD_and, h2, Bool.and_true]
  have h3 : i < 32 := by omega
  show (((x &&& 255).toBitVec).signExtend 8).getLsbD i = (x.toBitVec.signExtend 8).getLsbD i
  rw [BitVec.getLsbD_signExtend, BitVec.getLsbD_signExtend, if_pos h3, if_pos h3, h4]
theorem ba_nI (x : Int32) : ∃ n, n < 2 ^ 32 ∧ x = nI n := ⟨x.toBitVec.toNat, x.toBitVec.isLt, Int32.toBitVec_inj.mp (by show _ = BitVec.ofNat 32 _; simp)⟩
theorem ba_255 (x : Int32) : ∃ m, m < 256 ∧ x &&& 255 = nI m := by
  obtain ⟨n, -, rfl⟩ := ba_nI x
  refine ⟨n % 256, Nat.mod_lt _ (by decide), ?_⟩
  have := nI_and n 255
  rw [show (n &&& 255) = n % 256 from Nat.and_two_pow_sub_one_eq_mod n 8] at this
  exact this
/-- the byte of v at a shift -/
def by8 (v : Int) (s : Nat) : Int := jand (jush v s) 255
theorem of255 : Int32.ofInt 255 = 255 := rfl
theorem by_sh (v : Int) {s : Nat} (hs : s ≤ 24) : jand (jshr v s) 255 = by8 v s := by
  unfold by8 jand jshr jush
  rw [Int32.ofInt_toInt, Int32.ofInt_toInt, of_nat, of255]
  congr 1
  apply bb_ext
  intro i hi
  rw [bb_and, bb_and, bb_255, bb_sshr s (by omega) _ hi, bb_ushr s (by omega)]
  by_cases z : i < 8
  · rw [if_pos (by omega)]
  · rw [decide_eq_false z, Bool.and_false, Bool.and_false]
theorem by_in (v : Int) (s : Nat) : 0 ≤ by8 v s ∧ by8 v s ≤ 255 := by
  unfold by8 jand
  rw [of255]
  obtain ⟨m, hm, h⟩ := ba_255 (Int32.ofInt (jush v s))
  rw [h, nI_int (by omega)]
  omega
theorem b8_c : ∀ c : Nat, c < 256 → (nI c).toInt8.toInt32.toInt = s8 c := by decide +kernel
theorem b8_s : ∀ c : Nat, c < 256 → jbyt (s8 c) = s8 c := by decide +kernel
theorem by_st (v : Int) {s : Nat} (hs : s ≤ 24) : jbyt (jshr v s) = s8 (by8 v s) := by
  rw [← by_sh v hs]
  unfold jbyt jand
  rw [of255, ← ba_low]
  obtain ⟨m, hm, h⟩ := ba_255 (Int32.ofInt (jshr v s))
  rw [h, nI_int (by omega)]
  exact b8_c m hm
theorem by_st2 (v : Int) (s : Nat) : jbyt (s8 (by8 v s)) = s8 (by8 v s) := by
  have := by_in v s
  obtain ⟨m, hm⟩ := Int.eq_ofNat_of_zero_le this.1
  rw [hm]
  exact b8_s m (by omega)
/-- how many of the first i bytes are none 0; the tape behind them -/
def bcF (v : Int) : Nat → Nat
  | 0 => 0
  | i + 1 => bcF v i + if by8 v (24 - 8 * i) = 0 then 0 else 1
def apF (v : Int) (n : Nat) (T : Nat → Int) : Nat → Nat × (Nat → Int)
  | 0 => (n, T)
  | i + 1 => if by8 v (24 - 8 * i) = 0 then apF v n T i else ((apF v n T i).1 + 1, up (apF v n T i).2 (apF v n T i).1 (by8 v (24 - 8 * i)))
theorem bcF_le (v : Int) : ∀ i, bcF v i ≤ i
  | 0 => Nat.le_refl 0
  | i + 1 => by
    have := bcF_le v i
    unfold bcF
    split <;> omega
theorem bcF_mono (v : Int) : ∀ i j, i ≤ j → bcF v i ≤ bcF v j
  | i, 0, h => by rw [show i = 0 by omega]; exact Nat.le_refl _
  | i, j + 1, h => by
    by_cases z : i = j + 1
    · rw [z]; exact Nat.le_refl _
    · have := bcF_mono v i j (by omega)
      exact Nat.le_trans this (Nat.le_add_right _ _)
theorem apF_1 (v : Int) (n : Nat) (T : Nat → Int) : ∀ i, (apF v n T i).1 = n + bcF v i
  | 0 => rfl
  | i + 1 => by
    have := apF_1 v n T i
    unfold apF bcF
    split
    · omega
    · show (apF v n T i).1 + 1 = _
      omega
theorem apF_sg {v : Int} {n : Nat} {T : Nat → Int} (h : sgs n T) : ∀ i, sgs (apF v n T i).1 (apF v n T i).2
  | 0 => h
  | i + 1 => by
    have ih := apF_sg (v := v) h i
    unfold apF
    split
    · exact ih
    · rename_i z
      have b := by_in v (24 - 8 * i)
      intro q hq
      simp only [up_at]
      split
      · omega
      · exact ih q (by simp only at hq; omega)
theorem sh_i (i : Nat) (hi : i < 4) : (24 - 8 * (i : Int)) = ((24 - 8 * i : Nat) : Int) := by omega
theorem ok_LB_signsIn {σ : jM} {Φ : jPh} {d : Nat} {v : Int} (h : Φ (some (.inl (bcF v 4))) σ) : Ct (d + 1) M_LB_signsIn [.inl v] σ Φ := by
  refine i_LB_signsIn (Nat.le_add_right 1 2) (fun At h5 => ?_)
  have key : ∀ (m i : Nat), i + m = 4 → At 5 [some (.inl v), some (.inl (bcF v i)), some (.inl (24 - 8 * (i : Int)))] [] σ := by
    intro m
    induction m with
    | zero =>
      intro i hi
      refine h5 _ _ _ ?_
      simp only [w_LB_signsIn_33, w_LB_signsIn_25, w_LB_signsIn_24, w_LB_signsIn_5, w_LB_signsIn_0, c_ic, c_lc, c_nul, c_il, c_ll, c_al, c_is, c_ls, c_as, c_inc, c_b2, c_b2n, c_b1, c_d2, c_d2n, c_dsh, c_i2l, c_l2i, c_lcm, c_dup, c_dup2, c_pop, c_j1, c_j2, c_jn, c_sw0, c_sw, c_gI, c_gL, c_gR, c_gS, c_pI, c_pZ, c_pL, c_pR, c_iald, c_ialg, c_iast, c_iasg, c_bald, c_bast, c_lald, c_last, c_aald, c_aals, c_aast, c_alen, c_bnd, c_str, c_bndl, c_bnln, c_sval, c_scod, c_sbal, c_sbln, c_fmt, c_stop, c_iret, c_zret, c_nret, c_aret, c_vret, c_lret, c_cpy, c_callV, c_callS, tkA, lget, lput, lkill, jpush, vsz, jcat, lins, lent, List.length_cons, List.length_nil, List.replicate, List.append_nil, List.cons_append, List.nil_append, reduceIte, Nat.reduceAdd, Nat.reduceSub, Nat.reduceEqDiff, true_and, and_true, Nat.reduceLeDiff, Nat.lt_irrefl, Nat.succ_ne_self, forall_const, ne_eq, not_true_eq_false, not_false_eq_true, false_implies, implies_true, true_implies, true_or, or_true, or_false, false_or, eq_self, Int.reduceEq, Int.reduceLT, Int.reduceLE, Int.reduceNeg, Int.reduceToNat, Int.reduceAdd, Int.reduceSub, Int.reduceMul, Int.reduceNe, and_self]
      refine ⟨fun _ => ?_, fun z => absurd z (by omega)⟩
      rw [show i = 4 by omega]
      exact h
    | succ m ih =>
      intro i hi
      refine h5 _ _ _ ?_
      have := ih (i + 1) (by omega)
      have hb := bcF_le v i
      have e1 : wr (24 - 8 * (i : Int) + -8) = 24 - 8 * ((i + 1 : Nat) : Int) := by rw [wr_id (by omega) (by omega)]; omega
      have e2 : jand (jush v (24 - 8 * (i : Int))) 255 = by8 v (24 - 8 * i) := by rw [sh_i i (by omega)]; rfl
      unfold bcF at this
      simp only [w_LB_signsIn_33, w_LB_signsIn_25, w_LB_signsIn_24, w_LB_signsIn_5, w_LB_signsIn_0, c_ic, c_lc, c_nul, c_il, c_ll, c_al, c_is, c_ls, c_as, c_inc, c_b2, c_b2n, c_b1, c_d2, c_d2n, c_dsh, c_i2l, c_l2i, c_lcm, c_dup, c_dup2, c_pop, c_j1, c_j2, c_jn, c_sw0, c_sw, c_gI, c_gL, c_gR, c_gS, c_pI, c_pZ, c_pL, c_pR, c_iald, c_ialg, c_iast, c_iasg, c_bald, c_bast, c_lald, c_last, c_aald, c_aals, c_aast, c_alen, c_bnd, c_str, c_bndl, c_bnln, c_sval, c_scod, c_sbal, c_sbln, c_fmt, c_stop, c_iret, c_zret, c_nret, c_aret, c_vret, c_lret, c_cpy, c_callV, c_callS, tkA, lget, lput, lkill, jpush, vsz, jcat, lins, lent, List.length_cons, List.length_nil, List.replicate, List.append_nil, List.cons_append, List.nil_append, reduceIte, Nat.reduceAdd, Nat.reduceSub, Nat.reduceEqDiff, true_and, and_true, Nat.reduceLeDiff, Nat.lt_irrefl, Nat.succ_ne_self, forall_const, ne_eq, not_true_eq_false, not_false_eq_true, false_implies, implies_true, true_implies, true_or, or_true, or_false, false_or, eq_self, Int.reduceEq, Int.reduceLT, Int.reduceLE, Int.reduceNeg, Int.reduceToNat, Int.reduceAdd, Int.reduceSub, Int.reduceMul, Int.reduceNe, and_self, e1, e2]
      refine ⟨fun z => absurd z (by omega), fun _ => ⟨fun z => ?_, fun z => ?_⟩⟩
      · rw [if_neg z] at this
        rw [wr_id (by omega) (by omega)]
        exact this
      · rw [if_pos (Classical.not_not.mp z)] at this
        rw [wr_id (by omega) (by omega), Int.add_zero]
        exact this
  simp only [w_LB_signsIn_0, c_ic, c_lc, c_nul, c_il, c_ll, c_al, c_is, c_ls, c_as, c_inc, c_b2, c_b2n, c_b1, c_d2, c_d2n, c_dsh, c_i2l, c_l2i, c_lcm, c_dup, c_dup2, c_pop, c_j1, c_j2, c_jn, c_sw0, c_sw, c_gI, c_gL, c_gR, c_gS, c_pI, c_pZ, c_pL, c_pR, c_iald, c_ialg, c_iast, c_iasg, c_bald, c_bast, c_lald, c_last, c_aald, c_aals, c_aast, c_alen, c_bnd, c_str, c_bndl, c_bnln, c_sval, c_scod, c_sbal, c_sbln, c_fmt, c_stop, c_iret, c_zret, c_nret, c_aret, c_vret, c_lret, c_cpy, c_callV, c_callS, tkA, lget, lput, lkill, jpush, vsz, jcat, lins, lent, List.length_cons, List.length_nil, List.replicate, List.append_nil, List.cons_append, List.nil_append, reduceIte, Nat.reduceAdd, Nat.reduceSub, Nat.reduceEqDiff, true_and, and_true, Nat.reduceLeDiff, Nat.lt_irrefl, Nat.succ_ne_self, forall_const, ne_eq, not_true_eq_false, not_false_eq_true, false_implies, implies_true, true_implies, true_or, or_true, or_false, false_or, eq_self, Int.reduceEq, Int.reduceLT, Int.reduceLE, Int.reduceNeg, Int.reduceToNat, Int.reduceAdd, Int.reduceSub, Int.reduceMul, Int.reduceNe, and_self]
  exact key 4 0 rfl
theorem ok_MO_bytesIn {σ : jM} {Φ : jPh} {d : Nat} {v : Int} (h : Φ (some (.inl (bcF v 4))) σ) : Ct (d + 1) M_MO_bytesIn [.inl v] σ Φ := by
  refine i_MO_bytesIn (Nat.le_add_right 1 2) (fun At h5 => ?_)
  have key : ∀ (m i : Nat), i + m = 4 → At 5 [some (.inl v), some (.inl (bcF v i)), some (.inl (24 - 8 * (i : Int)))] [] σ := by
    intro m
    induction m with
    | zero =>
      intro i hi
      refine h5 _ _ _ ?_
      simp only [w_MO_bytesIn_33, w_MO_bytesIn_25, w_MO_bytesIn_24, w_MO_bytesIn_5, w_MO_bytesIn_0, c_ic, c_lc, c_nul, c_il, c_ll, c_al, c_is, c_ls, c_as, c_inc, c_b2, c_b2n, c_b1, c_d2, c_d2n, c_dsh, c_i2l, c_l2i, c_lcm, c_dup, c_dup2, c_pop, c_j1, c_j2, c_jn, c_sw0, c_sw, c_gI, c_gL, c_gR, c_gS, c_pI, c_pZ, c_pL, c_pR, c_iald, c_ialg, c_iast, c_iasg, c_bald, c_bast, c_lald, c_last, c_aald, c_aals, c_aast, c_alen, c_bnd, c_str, c_bndl, c_bnln, c_sval, c_scod, c_sbal, c_sbln, c_fmt, c_stop, c_iret, c_zret, c_nret, c_aret, c_vret, c_lret, c_cpy, c_callV, c_callS, tkA, lget, lput, lkill, jpush, vsz, jcat, lins, lent, List.length_cons, List.length_nil, List.replicate, List.append_nil, List.cons_append, List.nil_append, reduceIte, Nat.reduceAdd, Nat.reduceSub, Nat.reduceEqDiff, true_and, and_true, Nat.reduceLeDiff, Nat.lt_irrefl, Nat.succ_ne_self, forall_const, ne_eq, not_true_eq_false, not_false_eq_true, false_implies, implies_true, true_implies, true_or, or_true, or_false, false_or, eq_self, Int.reduceEq, Int.reduceLT, Int.reduceLE, Int.reduceNeg, Int.reduceToNat, Int.reduceAdd, Int.reduceSub, Int.reduceMul, Int.reduceNe, and_self]
      refine ⟨fun _ => ?_, fun z => absurd z (by omega)⟩
      rw [show i = 4 by omega]
      exact h
    | succ m ih =>
      intro i hi
      refine h5 _ _ _ ?_
      have := ih (i + 1) (by omega)
      have hb := bcF_le v i
      have e1 : wr (24 - 8 * (i : Int) + -8) = 24 - 8 * ((i + 1 : Nat) : Int) := by rw [wr_id (by omega) (by omega)]; omega
      have e2 : jand (jshr v (24 - 8 * (i : Int))) 255 = by8 v (24 - 8 * i) := by rw [sh_i i (by omega)]; exact by_sh v (by omega)
      unfold bcF at this
      simp only [w_MO_bytesIn_33, w_MO_bytesIn_25, w_MO_bytesIn_24, w_MO_bytesIn_5, w_MO_bytesIn_0, c_ic, c_lc, c_nul, c_il, c_ll, c_al, c_is, c_ls, c_as, c_inc, c_b2, c_b2n, c_b1, c_d2, c_d2n, c_dsh, c_i2l, c_l2i, c_lcm, c_dup, c_dup2, c_pop, c_j1, c_j2, c_jn, c_sw0, c_sw, c_gI, c_gL, c_gR, c_gS, c_pI, c_pZ, c_pL, c_pR, c_iald, c_ialg, c_iast, c_iasg, c_bald, c_bast, c_lald, c_last, c_aald, c_aals, c_aast, c_alen, c_bnd, c_str, c_bndl, c_bnln, c_sval, c_scod, c_sbal, c_sbln, c_fmt, c_stop, c_iret, c_zret, c_nret, c_aret, c_vret, c_lret, c_cpy, c_callV, c_callS, tkA, lget, lput, lkill, jpush, vsz, jcat, lins, lent, List.length_cons, List.length_nil, List.replicate, List.append_nil, List.cons_append, List.nil_append, reduceIte, Nat.reduceAdd, Nat.reduceSub, Nat.reduceEqDiff, true_and, and_true, Nat.reduceLeDiff, Nat.lt_irrefl, Nat.succ_ne_self, forall_const, ne_eq, not_true_eq_false, not_false_eq_true, false_implies, implies_true, true_implies, true_or, or_true, or_false, false_or, eq_self, Int.reduceEq, Int.reduceLT, Int.reduceLE, Int.reduceNeg, Int.reduceToNat, Int.reduceAdd, Int.reduceSub, Int.reduceMul, Int.reduceNe, and_self, e1, e2]
      refine ⟨fun z => absurd z (by omega), fun _ => ⟨fun z => ?_, fun z => ?_⟩⟩
      · rw [if_pos z] at this
        rw [wr_id (by omega) (by omega), Int.add_zero]
        exact this
      · rw [if_neg z] at this
        rw [wr_id (by omega) (by omega)]
        exact this
  simp only [w_MO_bytesIn_0, c_ic, c_lc, c_nul, c_il, c_ll, c_al, c_is, c_ls, c_as, c_inc, c_b2, c_b2n, c_b1, c_d2, c_d2n, c_dsh, c_i2l, c_l2i, c_lcm, c_dup, c_dup2, c_pop, c_j1, c_j2, c_jn, c_sw0, c_sw, c_gI, c_gL, c_gR, c_gS, c_pI, c_pZ, c_pL, c_pR, c_iald, c_ialg, c_iast, c_iasg, c_bald, c_bast, c_lald, c_last, c_aald, c_aals, c_aast, c_alen, c_bnd, c_str, c_bndl, c_bnln, c_sval, c_scod, c_sbal, c_sbln, c_fmt, c_stop, c_iret, c_zret, c_nret, c_aret, c_vret, c_lret, c_cpy, c_callV, c_callS, tkA, lget, lput, lkill, jpush, vsz, jcat, lins, lent, List.length_cons, List.length_nil, List.replicate, List.append_nil, List.cons_append, List.nil_append, reduceIte, Nat.reduceAdd, Nat.reduceSub, Nat.reduceEqDiff, true_and, and_true, Nat.reduceLeDiff, Nat.lt_irrefl, Nat.succ_ne_self, forall_const, ne_eq, not_true_eq_false, not_false_eq_true, false_implies, implies_true, true_implies, true_or, or_true, or_false, false_or, eq_self, Int.reduceEq, Int.reduceLT, Int.reduceLE, Int.reduceNeg, Int.reduceToNat, Int.reduceAdd, Int.reduceSub, Int.reduceMul, Int.reduceNe, and_self]
  exact key 4 0 rfl
def SFd : jS := fun k j o => (k = 7 ∧ j = 0 ∧ o = 1) ∨ (k = 40 ∧ j = 0)
theorem ok_TA_append {σ : jM} {Φ : jPh} {d n a : Nat} {T : Nat → Int} {f v : Int} (hv : TV σ n T a f) (hb : n + bcF v 4 ≤ 240) (h : ∀ τ, Fr SFd σ τ → TV τ (apF v n T 4).1 (apF v n T 4).2 a f → Φ none τ) : Ct (d + 1) M_TA_append [rf 7 0, .inl v] σ Φ := by
  refine i_TA_append (Nat.le_add_right 2 2) (fun At h3 => ?_)
  have key : ∀ (m i : Nat) (τ : jM) (x : Option jV), i + m = 4 → Fr SFd σ τ → TV τ (apF v n T i).1 (apF v n T i).2 a f → At 3 [some (rf 7 0), some (.inl v), some (.inl (24 - 8 * (i : Int))), x] [] τ := by
    intro m
    induction m with
    | zero =>
      intro i τ x hi hF hv
      refine h3 _ _ _ ?_
      simp only [w_TA_append_3, w_TA_append_62, c_ic, c_lc, c_nul, c_il, c_ll, c_al, c_is, c_ls, c_as, c_inc, c_b2, c_b2n, c_b1, c_d2, c_d2n, c_dsh, c_i2l, c_l2i, c_lcm, c_dup, c_dup2, c_pop, c_j1, c_j2, c_jn, c_sw0, c_sw, c_gI, c_gL, c_gR, c_gS, c_pI, c_pZ, c_pL, c_pR, c_iald, c_ialg, c_iast, c_iasg, c_bald, c_bast, c_lald, c_last, c_aald, c_aals, c_aast, c_alen, c_bnd, c_str, c_bndl, c_bnln, c_sval, c_scod, c_sbal, c_sbln, c_fmt, c_stop, c_iret, c_zret, c_nret, c_aret, c_vret, c_lret, c_cpy, c_callV, c_callS, tkA, lget, lput, lkill, jpush, vsz, jcat, lins, lent, List.length_cons, List.length_nil, List.replicate, List.append_nil, List.cons_append, List.nil_append, reduceIte, Nat.reduceAdd, Nat.reduceSub, Nat.reduceEqDiff, true_and, and_true, Nat.reduceLeDiff, Nat.lt_irrefl, Nat.succ_ne_self, forall_const, ne_eq, not_true_eq_false, not_false_eq_true, false_implies, implies_true, true_implies, true_or, or_true, or_false, false_or, eq_self, Int.reduceEq, Int.reduceLT, Int.reduceLE, Int.reduceNeg, Int.reduceToNat, Int.reduceAdd, Int.reduceSub, Int.reduceMul, Int.reduceNe, and_self]
      refine ⟨fun _ => ?_, fun z => absurd z (by omega)⟩
      rw [show i = 4 by omega] at hv
      exact h τ hF hv
    | succ m ih =>
      intro i τ x hi hF hv
      refine h3 _ _ _ ?_
      have e1 : wr (24 - 8 * (i : Int) + -8) = 24 - 8 * ((i + 1 : Nat) : Int) := by rw [wr_id (by omega) (by omega)]; omega
      have e2 : jand (jush v (24 - 8 * (i : Int))) 255 = by8 v (24 - 8 * i) := by rw [sh_i i (by omega)]; rfl
      obtain ⟨v1, v2, v3, v4, v5⟩ := hv
      have hn := apF_1 v n T i
      have hm1 := bcF_mono v (i + 1) 4 (by omega)
      have eb : bcF v (i + 1) = bcF v i + if by8 v (24 - 8 * i) = 0 then 0 else 1 := rfl
      have ea : apF v n T (i + 1) = if by8 v (24 - 8 * i) = 0 then apF v n T i else ((apF v n T i).1 + 1, up (apF v n T i).2 (apF v n T i).1 (by8 v (24 - 8 * i))) := rfl
      simp only [w_TA_append_3, w_TA_append_56, c_ic, c_lc, c_nul, c_il, c_ll, c_al, c_is, c_ls, c_as, c_inc, c_b2, c_b2n, c_b1, c_d2, c_d2n, c_dsh, c_i2l, c_l2i, c_lcm, c_dup, c_dup2, c_pop, c_j1, c_j2, c_jn, c_sw0, c_sw, c_gI, c_gL, c_gR, c_gS, c_pI, c_pZ, c_pL, c_pR, c_iald, c_ialg, c_iast, c_iasg, c_bald, c_bast, c_lald, c_last, c_aald, c_aals, c_aast, c_alen, c_bnd, c_str, c_bndl, c_bnln, c_sval, c_scod, c_sbal, c_sbln, c_fmt, c_stop, c_iret, c_zret, c_nret, c_aret, c_vret, c_lret, c_cpy, c_callV, c_callS, tkA, lget, lput, lkill, jpush, vsz, jcat, lins, lent, List.length_cons, List.length_nil, List.replicate, List.append_nil, List.cons_append, List.nil_append, reduceIte, Nat.reduceAdd, Nat.reduceSub, Nat.reduceEqDiff, true_and, and_true, Nat.reduceLeDiff, Nat.lt_irrefl, Nat.succ_ne_self, forall_const, ne_eq, not_true_eq_false, not_false_eq_true, false_implies, implies_true, true_implies, true_or, or_true, or_false, false_or, eq_self, Int.reduceEq, Int.reduceLT, Int.reduceLE, Int.reduceNeg, Int.reduceToNat, Int.reduceAdd, Int.reduceSub, Int.reduceMul, Int.reduceNe, and_self, e1, e2, v2, Int.toNat_natCast, g_sI, Nat.reduceEqDiff, false_and, if_false]
      refine ⟨fun z => absurd z (by omega), fun _ => ⟨fun z => ?_, fun z => ⟨fun z2 => absurd z2 (by omega), fun _ => ⟨fun z2 => ?_, fun _ => ⟨⟨by omega, by omega⟩, ?_⟩⟩⟩⟩⟩
      · refine ih (i + 1) τ _ (by omega) hF ?_
        rw [ea, if_pos z]
        exact ⟨v1, v2, v3, v4, v5⟩
      · rw [if_neg z] at eb
        omega
      · rw [if_neg z] at eb
        refine ih (i + 1) _ _ (by omega) ((hF.sI (Or.inr ⟨rfl, rfl⟩)).sI (Or.inl ⟨rfl, rfl, rfl⟩)) ?_
        rw [ea, if_neg z]
        refine ⟨by show (apF v n T i).1 + 1 ≤ 240; omega, ?_, fun q hq => ?_, ?_, ?_⟩
        · simp only [g_sI, and_self, if_true]
          rw [wr_id (by omega) (by omega)]
          omega
        · simp only [g_sI, Nat.reduceEqDiff, false_and, if_false, true_and, up_at]
          split
          · rfl
          · exact v3 q (by simp only at hq; omega)
        · simp only [g_sI, Nat.reduceEqDiff, and_false, false_and, if_false]; exact v4
        · simp only [g_sI, Nat.reduceEqDiff, and_false, false_and, if_false]; exact v5
  simp only [w_TA_append_0, c_ic, c_lc, c_nul, c_il, c_ll, c_al, c_is, c_ls, c_as, c_inc, c_b2, c_b2n, c_b1, c_d2, c_d2n, c_dsh, c_i2l, c_l2i, c_lcm, c_dup, c_dup2, c_pop, c_j1, c_j2, c_jn, c_sw0, c_sw, c_gI, c_gL, c_gR, c_gS, c_pI, c_pZ, c_pL, c_pR, c_iald, c_ialg, c_iast, c_iasg, c_bald, c_bast, c_lald, c_last, c_aald, c_aals, c_aast, c_alen, c_bnd, c_str, c_bndl, c_bnln, c_sval, c_scod, c_sbal, c_sbln, c_fmt, c_stop, c_iret, c_zret, c_nret, c_aret, c_vret, c_lret, c_cpy, c_callV, c_callS, tkA, lget, lput, lkill, jpush, vsz, jcat, lins, lent, List.length_cons, List.length_nil, List.replicate, List.append_nil, List.cons_append, List.nil_append, reduceIte, Nat.reduceAdd, Nat.reduceSub, Nat.reduceEqDiff, true_and, and_true, Nat.reduceLeDiff, Nat.lt_irrefl, Nat.succ_ne_self, forall_const, ne_eq, not_true_eq_false, not_false_eq_true, false_implies, implies_true, true_implies, true_or, or_true, or_false, false_or, eq_self, Int.reduceEq, Int.reduceLT, Int.reduceLE, Int.reduceNeg, Int.reduceToNat, Int.reduceAdd, Int.reduceSub, Int.reduceMul, Int.reduceNe, and_self]
  exact key 4 0 σ none rfl Fr.rf hv
def TM (σ : jM) (n : Nat) (T : Nat → Int) : Prop := TX σ 0 0 n T ∧ σ.1 10 0 6 = n
def SFm : jS := fun k j o => (k = 10 ∧ j = 0 ∧ o = 6) ∨ (k = 60 ∧ j = 0)
theorem ok_MO_put {σ : jM} {Φ : jPh} {d n : Nat} {T : Nat → Int} {v : Int} (hv : TM σ n T) (hb : n + bcF v 4 ≤ 240) (h : ∀ τ, Fr SFm σ τ → TM τ (apF v n T 4).1 (apF v n T 4).2 → Φ none τ) : Ct (d + 1) M_MO_put [rf 10 0, .inl v] σ Φ := by
  refine i_MO_put (Nat.le_add_right 2 1) (fun At h3 => ?_)
  have l60 : jln 60 0 = 240 := by decide
  have hv0 := hv.1.2.2.2.2
  have key : ∀ (m i : Nat) (τ : jM), i + m = 4 → Fr SFm σ τ → TM τ (apF v n T i).1 (apF v n T i).2 → At 3 [some (rf 10 0), some (.inl v), some (.inl (24 - 8 * (i : Int)))] [] τ := by
    intro m
    induction m with
    | zero =>
      intro i τ hi hF hv
      refine h3 _ _ _ ?_
      simp only [w_MO_put_3, w_MO_put_49, c_ic, c_lc, c_nul, c_il, c_ll, c_al, c_is, c_ls, c_as, c_inc, c_b2, c_b2n, c_b1, c_d2, c_d2n, c_dsh, c_i2l, c_l2i, c_lcm, c_dup, c_dup2, c_pop, c_j1, c_j2, c_jn, c_sw0, c_sw, c_gI, c_gL, c_gR, c_gS, c_pI, c_pZ, c_pL, c_pR, c_iald, c_ialg, c_iast, c_iasg, c_bald, c_bast, c_lald, c_last, c_aald, c_aals, c_aast, c_alen, c_bnd, c_str, c_bndl, c_bnln, c_sval, c_scod, c_sbal, c_sbln, c_fmt, c_stop, c_iret, c_zret, c_nret, c_aret, c_vret, c_lret, c_cpy, c_callV, c_callS, tkA, lget, lput, lkill, jpush, vsz, jcat, lins, lent, List.length_cons, List.length_nil, List.replicate, List.append_nil, List.cons_append, List.nil_append, reduceIte, Nat.reduceAdd, Nat.reduceSub, Nat.reduceEqDiff, true_and, and_true, Nat.reduceLeDiff, Nat.lt_irrefl, Nat.succ_ne_self, forall_const, ne_eq, not_true_eq_false, not_false_eq_true, false_implies, implies_true, true_implies, true_or, or_true, or_false, false_or, eq_self, Int.reduceEq, Int.reduceLT, Int.reduceLE, Int.reduceNeg, Int.reduceToNat, Int.reduceAdd, Int.reduceSub, Int.reduceMul, Int.reduceNe, and_self]
      refine ⟨fun _ => ?_, fun z => absurd z (by omega)⟩
      rw [show i = 4 by omega] at hv
      exact h τ hF hv
    | succ m ih =>
      intro i τ hi hF hv
      refine h3 _ _ _ ?_
      have e1 : wr (24 - 8 * (i : Int) + -8) = 24 - 8 * ((i + 1 : Nat) : Int) := by rw [wr_id (by omega) (by omega)]; omega
      have e2 : jand (jshr v (24 - 8 * (i : Int))) 255 = by8 v (24 - 8 * i) := by rw [sh_i i (by omega)]; exact by_sh v (by omega)
      have e3 : jbyt (jbyt (jshr v (24 - 8 * (i : Int)))) = s8 (by8 v (24 - 8 * i)) := by rw [sh_i i (by omega), by_st v (by omega), by_st2]
      obtain ⟨⟨v1, v2, v3, v4, v5⟩, v6⟩ := hv
      have hn := apF_1 v n T i
      have hm1 := bcF_mono v (i + 1) 4 (by omega)
      have eb : bcF v (i + 1) = bcF v i + if by8 v (24 - 8 * i) = 0 then 0 else 1 := rfl
      have ea : apF v n T (i + 1) = if by8 v (24 - 8 * i) = 0 then apF v n T i else ((apF v n T i).1 + 1, up (apF v n T i).2 (apF v n T i).1 (by8 v (24 - 8 * i))) := rfl
      simp only [w_MO_put_3, w_MO_put_20, w_MO_put_43, c_ic, c_lc, c_nul, c_il, c_ll, c_al, c_is, c_ls, c_as, c_inc, c_b2, c_b2n, c_b1, c_d2, c_d2n, c_dsh, c_i2l, c_l2i, c_lcm, c_dup, c_dup2, c_pop, c_j1, c_j2, c_jn, c_sw0, c_sw, c_gI, c_gL, c_gR, c_gS, c_pI, c_pZ, c_pL, c_pR, c_iald, c_ialg, c_iast, c_iasg, c_bald, c_bast, c_lald, c_last, c_aald, c_aals, c_aast, c_alen, c_bnd, c_str, c_bndl, c_bnln, c_sval, c_scod, c_sbal, c_sbln, c_fmt, c_stop, c_iret, c_zret, c_nret, c_aret, c_vret, c_lret, c_cpy, c_callV, c_callS, tkA, lget, lput, lkill, jpush, vsz, jcat, lins, lent, List.length_cons, List.length_nil, List.replicate, List.append_nil, List.cons_append, List.nil_append, reduceIte, Nat.reduceAdd, Nat.reduceSub, Nat.reduceEqDiff, true_and, and_true, Nat.reduceLeDiff, Nat.lt_irrefl, Nat.succ_ne_self, forall_const, ne_eq, not_true_eq_false, not_false_eq_true, false_implies, implies_true, true_implies, true_or, or_true, or_false, false_or, eq_self, Int.reduceEq, Int.reduceLT, Int.reduceLE, Int.reduceNeg, Int.reduceToNat, Int.reduceAdd, Int.reduceSub, Int.reduceMul, Int.reduceNe, and_self, e1, e2, v6, Int.toNat_natCast, g_sI, Nat.reduceEqDiff, false_and, if_false, e3, l60]
      refine ⟨fun z => absurd z (by omega), fun _ => ⟨fun z => ?_, fun z => ?_⟩⟩
      · rw [if_neg z] at eb
        refine ⟨⟨by omega, by omega⟩, ?_⟩
        refine ih (i + 1) _ (by omega) ((hF.sI (Or.inr ⟨rfl, rfl⟩)).sI (Or.inl ⟨rfl, rfl, rfl⟩)) ?_
        have hs := apF_sg (v := v) (n := n) (T := T) hv0 (i + 1)
        rw [ea, if_neg z] at hs ⊢
        refine ⟨⟨by show (apF v n T i).1 + 1 ≤ 240; omega, by show 0 + ((apF v n T i).1 + 1) ≤ jln 60 0; rw [l60]; omega, by decide, fun q hq => ?_, hs⟩, ?_⟩
        · simp only [g_sI, Nat.reduceEqDiff, false_and, if_false, true_and, up_at, Nat.zero_add]
          split
          · rfl
          · have := v4 q (by simp only at hq; omega)
            rw [Nat.zero_add] at this
            exact this
        · simp only [g_sI, and_self, if_true]
          rw [wr_id (by omega) (by omega)]
          omega
      · refine ih (i + 1) τ (by omega) hF ?_
        rw [ea, if_pos (Classical.not_not.mp z)]
        exact ⟨⟨v1, v2, v3, v4, v5⟩, v6⟩
  simp only [w_MO_put_0, c_ic, c_lc, c_nul, c_il, c_ll, c_al, c_is, c_ls, c_as, c_inc, c_b2, c_b2n, c_b1, c_d2, c_d2n, c_dsh, c_i2l, c_l2i, c_lcm, c_dup, c_dup2, c_pop, c_j1, c_j2, c_jn, c_sw0, c_sw, c_gI, c_gL, c_gR, c_gS, c_pI, c_pZ, c_pL, c_pR, c_iald, c_ialg, c_iast, c_iasg, c_bald, c_bast, c_lald, c_last, c_aald, c_aals, c_aast, c_alen, c_bnd, c_str, c_bndl, c_bnln, c_sval, c_scod, c_sbal, c_sbln, c_fmt, c_stop, c_iret, c_zret, c_nret, c_aret, c_vret, c_lret, c_cpy, c_callV, c_callS, tkA, lget, lput, lkill, jpush, vsz, jcat, lins, lent, List.length_cons, List.length_nil, List.replicate, List.append_nil, List.cons_append, List.nil_append, reduceIte, Nat.reduceAdd, Nat.reduceSub, Nat.reduceEqDiff, true_and, and_true, Nat.reduceLeDiff, Nat.lt_irrefl, Nat.succ_ne_self, forall_const, ne_eq, not_true_eq_false, not_false_eq_true, false_implies, implies_true, true_implies, true_or, or_true, or_false, false_or, eq_self, Int.reduceEq, Int.reduceLT, Int.reduceLE, Int.reduceNeg, Int.reduceToNat, Int.reduceAdd, Int.reduceSub, Int.reduceMul, Int.reduceNe, and_self]
  exact key 4 0 σ rfl Fr.rf hv
