/-! ===== 45 Law: code words, add, aimHere ===== -/
theorem of_nat (x : Nat) : Int32.ofInt (x : Int) = nI x := Int32.ofInt_eq_ofNat
theorem nI_or (a b : Nat) : nI a ||| nI b = nI (a ||| b) := by
  apply Int32.toBitVec_inj.mp
  show BitVec.ofNat 32 a ||| BitVec.ofNat 32 b = BitVec.ofNat 32 (a ||| b)
  rw [BitVec.ofNat_or]
theorem nI_int {x : Nat} (h : x < 2147483648) : (nI x).toInt = x := nI_toInt h
theorem jshl_nat {o s : Nat} (hs : s < 31) (h : o * 2 ^ s < 2147483648) : jshl o s = ((o * 2 ^ s : Nat) : Int) := by
  have hk : ∀ s : Nat, s < 31 → ((nI s &&& 31).toBitVec.smod 32).toNat = s := by decide +kernel
  unfold jshl
  rw [of_nat, of_nat, pk_shlN (nI s &&& 31) s (hk s hs) (by omega), nI_int h]
theorem jor_sum {a b k : Nat} (hb : b < 2 ^ k) (h : 2 ^ k * a + b < 2147483648) : jor ((2 ^ k * a : Nat) : Int) (b : Int) = ((2 ^ k * a + b : Nat) : Int) := by
  unfold jor
  rw [of_nat, of_nat, nI_or, ← Nat.two_pow_add_eq_or_of_lt hb, nI_int h]
theorem jword {o s : Nat} (ho : o < 1000000) (hs : s < 16) : jor (jshl o 4) s = ((o * 16 + s : Nat) : Int) := by
  have h1 := jshl_nat (o := o) (s := 4) (by decide) (by omega)
  rw [show ((4 : Nat) : Int) = 4 from rfl] at h1
  rw [h1, show o * 2 ^ 4 = 2 ^ 4 * o from Nat.mul_comm _ _, jor_sum (k := 4) (by omega) (by omega)]
/-- what the reader of laws may change: the reader's place and fault, the law's code and its size -/
def AG (l : Nat) (σ τ : jM) : Prop := τ.2 = σ.2 ∧ ∀ k j o, (k = 7 ∧ j = 0 ∧ (o = 2 ∨ o = 3)) ∨ (k = 3 ∧ j = l ∧ o = 3) ∨ (k = 23 ∧ j = l) ∨ τ.1 k j o = σ.1 k j o
theorem AG.rf (l : Nat) (σ : jM) : AG l σ σ := ⟨rfl, fun k j o => Or.inr (Or.inr (Or.inr rfl))⟩
theorem AG.tr {l : Nat} {σ τ υ : jM} (h1 : AG l σ τ) (h2 : AG l τ υ) : AG l σ υ := by
  refine ⟨h2.1.trans h1.1, fun k j o => ?_⟩
  rcases h2.2 k j o with h | h | h | h
  · exact Or.inl h
  · exact Or.inr (Or.inl h)
  · exact Or.inr (Or.inr (Or.inl h))
  · rcases h1.2 k j o with g | g | g | g
    · exact Or.inl g
    · exact Or.inr (Or.inl g)
    · exact Or.inr (Or.inr (Or.inl g))
    · exact Or.inr (Or.inr (Or.inr (h.trans g)))
theorem AG.mv (l : Nat) (σ : jM) (a f : Int) : AG l σ (tp σ a f) := by
  refine ⟨rfl, fun k j o => ?_⟩
  simp only [tp, g_sI]
  by_cases h : k = 7 ∧ j = 0 ∧ o = 3
  · exact Or.inl ⟨h.1, h.2.1, Or.inr h.2.2⟩
  · by_cases h2 : k = 7 ∧ j = 0 ∧ o = 2
    · exact Or.inl ⟨h2.1, h2.2.1, Or.inl h2.2.2⟩
    · rw [if_neg h, if_neg h2]; exact Or.inr (Or.inr (Or.inr rfl))
def LV (σ : jM) (l : Nat) (c : List Int) : Prop := σ.1 3 l 3 = c.length ∧ c.length ≤ 240 ∧ ∀ i, i < c.length → σ.1 23 l i = c.getD i 0
def SZ (σ : jM) (l : Nat) : Prop := 0 ≤ σ.1 3 l 3 ∧ σ.1 3 l 3 ≤ 240
theorem LV.sz {σ : jM} {l : Nat} {c : List Int} (h : LV σ l c) : SZ σ l := ⟨by rw [h.1]; omega, by rw [h.1]; have := h.2.1; omega⟩
theorem LV.mv {σ : jM} {l : Nat} {c : List Int} {a f : Int} (h : LV σ l c) : LV (tp σ a f) l c := by
  exact h
theorem SZ.mv {σ : jM} {l : Nat} {a f : Int} (h : SZ σ l) : SZ (tp σ a f) l := h
/-- one word more -/
def ad (σ : jM) (l : Nat) (w : Int) : jM := sI (sI σ 23 l (σ.1 3 l 3).toNat w) 3 l 3 (σ.1 3 l 3 + 1)
theorem AG.mw (l : Nat) (σ : jM) (w : Int) : AG l σ (ad σ l w) := by
  refine ⟨rfl, fun k j o => ?_⟩
  unfold ad
  simp only [g_sI]
  by_cases h : k = 3 ∧ j = l ∧ o = 3
  · exact Or.inr (Or.inl h)
  · by_cases h2 : k = 23 ∧ j = l ∧ o = (σ.1 3 l 3).toNat
    · exact Or.inr (Or.inr (Or.inl ⟨h2.1, h2.2.1⟩))
    · rw [if_neg h, if_neg h2]; exact Or.inr (Or.inr (Or.inr rfl))
theorem TV_ad {σ : jM} {n a l : Nat} {T : Nat → Int} {f w : Int} (h : TV σ n T a f) : TV (ad σ l w) n T a f := by
  obtain ⟨h1, h2, h3, h4, h5⟩ := h
  refine ⟨h1, ?_, fun i hi => ?_, ?_, ?_⟩ <;> simp only [ad, g_sI, g_sI2, g_sL1, g_sL, g_sL2, g_sR1, g_sR2, g_sR, g_sA, g_sA2, and_false, false_and, and_self, if_false, if_true, Nat.reduceEqDiff]
  · exact h2
  · exact h3 i hi
  · exact h4
  · exact h5
theorem LV_ad {σ : jM} {l : Nat} {c : List Int} {w : Int} (h : LV σ l c) (hc : c.length < 240) : LV (ad σ l w) l (c ++ [w]) := by
  obtain ⟨h1, h2, h3⟩ := h
  unfold ad
  rw [h1]
  refine ⟨?_, ?_, fun i hi => ?_⟩
  · simp only [g_sI, g_sI2, g_sL1, g_sL, g_sL2, g_sR1, g_sR2, g_sR, g_sA, g_sA2, and_false, false_and, and_self, if_false, if_true, List.length_append, List.length_cons, List.length_nil]; omega
  · simp only [List.length_append, List.length_cons, List.length_nil]; omega
  · simp only [List.length_append, List.length_cons, List.length_nil] at hi
    simp only [g_sI, g_sI2, g_sL1, g_sL, g_sL2, g_sR1, g_sR2, g_sR, g_sA, g_sA2, and_false, false_and, and_self, if_false, if_true, Nat.reduceEqDiff, true_and, Int.toNat_natCast]
    by_cases e : i = c.length
    · rw [if_pos e, e]; simp
    · rw [if_neg e, h3 i (by omega)]
      simp only [List.getD_eq_getElem?_getD, List.getElem?_append_left (show i < c.length by omega)]
theorem SZ_ad {σ : jM} {l : Nat} {w : Int} (h : SZ σ l) (hc : σ.1 3 l 3 < 240) : SZ (ad σ l w) l := by
  unfold SZ ad at *
  simp only [g_sI, g_sI2, g_sL1, g_sL, g_sL2, g_sR1, g_sR2, g_sR, g_sA, g_sA2, and_false, false_and, and_self, if_false, if_true]
  omega
theorem ok_LA_add {σ : jM} {Φ : jPh} {d l : Nat} {s o : Nat} (hz : SZ σ l) (ho : o < 1000000) (hs : s < 16) (h1 : σ.1 3 l 3 < 240 → Φ none (ad σ l ((o * 16 + s : Nat) : Int))) (h2 : ¬ σ.1 3 l 3 < 240 → Φ none σ) : Ct (d + 1) M_LA_add [rf 3 l, .inl s, .inl o] σ Φ := by
  obtain ⟨z1, z2⟩ := hz
  refine i_LA_add (Nat.le_refl 3) ?_
  simp only [w_LA_add_43, w_LA_add_0, c_ic, c_lc, c_nul, c_il, c_ll, c_al, c_is, c_ls, c_as, c_inc, c_b2, c_b2n, c_b1, c_d2, c_d2n, c_dsh, c_i2l, c_l2i, c_lcm, c_dup, c_dup2, c_pop, c_j1, c_j2, c_jn, c_sw0, c_sw, c_gI, c_gL, c_gR, c_gS, c_pI, c_pZ, c_pL, c_pR, c_iald, c_ialg, c_iast, c_iasg, c_bald, c_bast, c_lald, c_last, c_aald, c_aals, c_aast, c_alen, c_bnd, c_str, c_bndl, c_bnln, c_sval, c_scod, c_sbal, c_sbln, c_fmt, c_stop, c_iret, c_zret, c_nret, c_aret, c_vret, c_lret, c_cpy, c_callV, c_callS, tkA, lget, lput, lkill, jpush, vsz, jcat, lins, lent, List.length_cons, List.length_nil, List.replicate, List.append_nil, List.cons_append, List.nil_append, reduceIte, Nat.reduceAdd, Nat.reduceSub, Nat.reduceEqDiff, true_and, and_true, Nat.reduceLeDiff, Nat.lt_irrefl, Nat.succ_ne_self, forall_const, ne_eq, not_true_eq_false, not_false_eq_true, false_implies, implies_true, true_implies, true_or, or_true, or_false, false_or, eq_self, Int.reduceEq, Int.reduceLT, Int.reduceLE, Int.reduceNeg, Int.reduceToNat, Int.reduceAdd, Int.reduceSub, Int.reduceMul, Int.reduceNe, and_self, jln]
  refine ⟨fun z => absurd z (by omega), fun _ => ⟨by decide, fun z => h2 (by omega), fun z => ⟨by omega, ?_⟩⟩⟩
  rw [jword ho hs]
  simp only [g_sI, g_sI2, g_sL1, g_sL, g_sL2, g_sR1, g_sR2, g_sR, g_sA, g_sA2, and_false, false_and, and_self, if_false, if_true, Nat.reduceEqDiff]
  rw [wr_id (x := σ.1 3 l 3 + 1) (by omega) (by omega)]
  exact h1 (by omega)
