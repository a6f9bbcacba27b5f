/-! ===== 64 World: its cells and a row ===== -/
def pk (f who tells : Int) : Int := (f * 256 + (who + 1)) * 256 + (tells + 1)
def CW (σ : jM) (j K : Nat) (W : Nat → Int) : Prop :=
  (∀ k, k < K → σ.1 41 j k = W (4 * k) ∧ σ.1 42 j k = W (4 * k + 1) ∧ σ.1 43 j k = W (4 * k + 2)) ∧
  (∀ k, k < 4 → σ.1 44 j k = W (4 * k + 3) ∧ σ.1 45 j k = bt (W 16) k ∧ σ.1 46 j k = pgs W k) ∧
  (σ.1 8 j 8 = W 19 ∧ σ.1 8 j 9 = W 110 ∧ σ.1 8 j 10 = W 17 ∧ σ.1 8 j 11 = W 18) ∧
  (∀ i : Nat, (i : Int) < W 19 → σ.1 47 j i = pk (W (20 + 3 * i)) (W (21 + 3 * i)) (W (22 + 3 * i))) ∧
  ∀ i : Nat, (i : Int) < W 110 → σ.1 48 j i = pk (W (111 + 3 * i)) (W (112 + 3 * i)) (W (113 + 3 * i))
/-- the class's realm r -/
def CR (σ : jM) (r K F : Nat) (ru G : Nat → Int) : Prop := σ.1 5 r 8 = K ∧ σ.1 5 r 9 = F ∧ σ.1 5 r 11 = ru 0 ∧ ∀ f, f < F → σ.1 29 r f = G (4 * f) ∧ σ.1 30 r f = G (4 * f + 1) ∧ σ.1 31 r f = G (4 * f + 2) ∧ σ.1 32 r f = G (4 * f + 3)
theorem cnt_congr {V W : Nat → Int} {k : Int} : ∀ n, (∀ i, i < n → V (21 + 3 * i) = W (21 + 3 * i)) → cnt V k n = cnt W k n
  | 0, _ => rfl
  | n + 1, h => by
    unfold cnt
    rw [cnt_congr n (fun i hi => h i (by omega)), h n (by omega)]
theorem pgs_congr {V W : Nat → Int} {k : Int} (h19 : V 19 = W 19) (h : ∀ i : Nat, (i : Int) < W 19 → V (21 + 3 * i) = W (21 + 3 * i)) : pgs V k = pgs W k := by
  unfold pgs
  rw [h19]
  exact cnt_congr _ (fun i hi => h i (by omega))
theorem pgs_up {W : Nat → Int} {k v : Int} {p : Nat} (h : p < 19 ∨ (110 ≤ p ∧ W 19 ≤ 30)) : pgs (up W p v) k = pgs W k := pgs_congr (up_ne (by omega)) (fun i hi => up_ne (by omega))
theorem pk_n {f who tells : Int} (hf : 0 ≤ f ∧ f ≤ 7) (hw : -1 ≤ who ∧ who ≤ 3) (ht : -1 ≤ tells ∧ tells ≤ 29) : ∃ a b c : Nat, f = a ∧ who + 1 = b ∧ tells + 1 = c ∧ a < 8 ∧ b < 5 ∧ c < 31 ∧ pk f who tells = (((a * 256 + b) * 256 + c : Nat) : Int) := by
  refine ⟨f.toNat, (who + 1).toNat, (tells + 1).toNat, by omega, by omega, by omega, by omega, by omega, by omega, ?_⟩
  unfold pk
  omega
theorem ok_WO_packed {σ : jM} {Φ : jPh} {d : Nat} {f who tells : Int} (hf : 0 ≤ f ∧ f ≤ 7) (hw : -1 ≤ who ∧ who ≤ 3) (ht : -1 ≤ tells ∧ tells ≤ 29) (h : Φ (some (.inl (pk f who tells))) σ) : Ct (d + 1) M_WO_packed [.inl f, .inl who, .inl tells] σ Φ := by
  obtain ⟨a, b, c, ha, hb, hc, a8, b5, c31, hp⟩ := pk_n hf hw ht
  refine i_WO_packed (Nat.le_refl 3) ?_
  simp only [w_WO_packed_0, c_ic, c_lc, c_nul, c_il, c_ll, c_al, c_is, c_ls, c_as, c_inc, c_b2, c_b2n, c_b1, c_d2, c_d2n, c_dsh, c_i2l, c_l2i, c_lcm, c_dup, c_dup2, c_pop, c_j1, c_j2, c_jn, c_sw0, c_sw, c_gI, c_gL, c_gR, c_gS, c_pI, c_pZ, c_pL, c_pR, c_iald, c_ialg, c_iast, c_iasg, c_bald, c_bast, c_lald, c_last, c_aald, c_aals, c_aast, c_alen, c_bnd, c_str, c_bndl, c_bnln, c_sval, c_scod, c_sbal, c_sbln, c_fmt, c_stop, c_iret, c_zret, c_nret, c_aret, c_vret, c_lret, c_cpy, c_callV, c_callS, tkA, lget, lput, lkill, jpush, vsz, jcat, lins, lent, List.length_cons, List.length_nil, List.replicate, List.append_nil, List.cons_append, List.nil_append, reduceIte, Nat.reduceAdd, Nat.reduceSub, Nat.reduceEqDiff, true_and, and_true, Nat.reduceLeDiff, Nat.lt_irrefl, Nat.succ_ne_self, forall_const, ne_eq, not_true_eq_false, not_false_eq_true, false_implies, implies_true, true_implies, true_or, or_true, or_false, false_or, eq_self, Int.reduceEq, Int.reduceLT, Int.reduceLE, Int.reduceNeg, Int.reduceToNat, Int.reduceAdd, Int.reduceSub, Int.reduceMul, Int.reduceNe, and_self]
  have s1 := jshl_nat (o := a) (s := 16) (by decide) (by omega)
  have s2 := jshl_nat (o := b) (s := 8) (by decide) (by omega)
  rw [show ((16 : Nat) : Int) = 16 from rfl] at s1
  rw [show ((8 : Nat) : Int) = 8 from rfl] at s2
  rw [wr_id (x := who + 1) (by omega) (by omega), wr_id (x := tells + 1) (by omega) (by omega), hb, hc, ha, s1, s2]
  have o1 := jor_sum (a := a) (b := b * 2 ^ 8) (k := 16) (by omega) (by omega)
  rw [show a * 2 ^ 16 = 2 ^ 16 * a from Nat.mul_comm _ _, o1]
  have o2 := jor_sum (a := a * 256 + b) (b := c) (k := 8) (by omega) (by omega)
  rw [show 2 ^ 16 * a + b * 2 ^ 8 = 2 ^ 8 * (a * 256 + b) by omega, o2]
  rw [hp] at h
  rw [show 2 ^ 8 * (a * 256 + b) + c = (a * 256 + b) * 256 + c by omega]
  exact h
def upk (f who tells what : Int) : Int := if what = 0 then f else if what = 1 then who else tells
theorem ok_WO_unpacked {σ : jM} {Φ : jPh} {d : Nat} {f who tells what : Int} (hf : 0 ≤ f ∧ f ≤ 7) (hw : -1 ≤ who ∧ who ≤ 3) (ht : -1 ≤ tells ∧ tells ≤ 29) (h : Φ (some (.inl (upk f who tells what))) σ) : Ct (d + 1) M_WO_unpacked [.inl (pk f who tells), .inl what] σ Φ := by
  obtain ⟨a, b, c, ha, hb, hc, a8, b5, c31, hp⟩ := pk_n hf hw ht
  refine i_WO_unpacked (Nat.le_refl 2) ?_
  have s1 := jshr_nat (x := (a * 256 + b) * 256 + c) (s := 16) (by decide) (by omega)
  have s2 := jshr_nat (x := (a * 256 + b) * 256 + c) (s := 8) (by decide) (by omega)
  rw [show ((16 : Nat) : Int) = 16 from rfl] at s1
  rw [show ((8 : Nat) : Int) = 8 from rfl] at s2
  have m1 := jand_mod (x := ((a * 256 + b) * 256 + c) / 2 ^ 8) 8 (by omega)
  have m2 := jand_mod (x := (a * 256 + b) * 256 + c) 8 (by omega)
  rw [show ((2 ^ 8 - 1 : Nat) : Int) = 255 by decide] at m1 m2
  simp only [w_WO_unpacked_44, w_WO_unpacked_33, w_WO_unpacked_28, w_WO_unpacked_0, c_ic, c_lc, c_nul, c_il, c_ll, c_al, c_is, c_ls, c_as, c_inc, c_b2, c_b2n, c_b1, c_d2, c_d2n, c_dsh, c_i2l, c_l2i, c_lcm, c_dup, c_dup2, c_pop, c_j1, c_j2, c_jn, c_sw0, c_sw, c_gI, c_gL, c_gR, c_gS, c_pI, c_pZ, c_pL, c_pR, c_iald, c_ialg, c_iast, c_iasg, c_bald, c_bast, c_lald, c_last, c_aald, c_aals, c_aast, c_alen, c_bnd, c_str, c_bndl, c_bnln, c_sval, c_scod, c_sbal, c_sbln, c_fmt, c_stop, c_iret, c_zret, c_nret, c_aret, c_vret, c_lret, c_cpy, c_callV, c_callS, tkA, lget, lput, lkill, jpush, vsz, jcat, lins, lent, List.length_cons, List.length_nil, List.replicate, List.append_nil, List.cons_append, List.nil_append, reduceIte, Nat.reduceAdd, Nat.reduceSub, Nat.reduceEqDiff, true_and, and_true, Nat.reduceLeDiff, Nat.lt_irrefl, Nat.succ_ne_self, forall_const, ne_eq, not_true_eq_false, not_false_eq_true, false_implies, implies_true, true_implies, true_or, or_true, or_false, false_or, eq_self, Int.reduceEq, Int.reduceLT, Int.reduceLE, Int.reduceNeg, Int.reduceToNat, Int.reduceAdd, Int.reduceSub, Int.reduceMul, Int.reduceNe, and_self, hp, s1, s2, m1, m2]
  unfold upk at h
  refine ⟨fun z => ?_, fun z => ⟨fun z2 => ?_, fun z2 => ?_⟩⟩
  · rw [if_pos z] at h
    rw [show ((((a * 256 + b) * 256 + c) / 2 ^ 16 : Nat) : Int) = f by omega]
    exact h
  · rw [if_neg z, if_pos z2] at h
    rw [wr_id (by omega) (by omega), show ((((a * 256 + b) * 256 + c) / 2 ^ 8 % 2 ^ 8 : Nat) : Int) - 1 = who by omega]
    exact h
  · rw [if_neg z, if_neg z2] at h
    rw [wr_id (by omega) (by omega), show ((((a * 256 + b) * 256 + c) % 2 ^ 8 : Nat) : Int) - 1 = tells by omega]
    exact h
section CWS
variable {σ : jM} {j K : Nat} {W : Nat → Int}
theorem CW.might (h : CW σ j K W) {k : Nat} {v : Int} (hk : k < 4) : CW (sI σ 41 j k v) j K (up W (4 * k) v) := by
  obtain ⟨h1, h2, h3, h4, h5⟩ := h
  refine ⟨fun k' hk' => ?_, fun k' hk' => ?_, ?_, fun i hi => ?_, fun i hi => ?_⟩
  · have := h1 k' hk'
    rw [up_ne (show 4 * k' + 1 ≠ 4 * k by omega), up_ne (show 4 * k' + 2 ≠ 4 * k by omega)]
    simp only [g_sI, Nat.reduceEqDiff, false_and, if_false, true_and]
    refine ⟨?_, this.2⟩
    by_cases z : k' = k
    · rw [if_pos z, z, up_eq]
    · rw [if_neg z, up_ne (by omega)]; exact this.1
  · have := h2 k' hk'
    rw [pgs_up (by omega), up_ne (show 16 ≠ 4 * k by omega), up_ne (show 4 * k' + 3 ≠ 4 * k by omega)]
    exact this
  · rw [up_ne (by omega), up_ne (by omega), up_ne (by omega), up_ne (by omega)]; exact h3
  · rw [up_ne (by omega)] at hi
    rw [up_ne (by omega), up_ne (by omega), up_ne (by omega)]; exact h4 i hi
  · rw [up_ne (by omega)] at hi
    rw [up_ne (by omega), up_ne (by omega), up_ne (by omega)]; exact h5 i hi
theorem CW.bias (h : CW σ j K W) {k : Nat} {v : Int} (hk : k < 4) : CW (sI σ 42 j k v) j K (up W (4 * k + 1) v) := by
  obtain ⟨h1, h2, h3, h4, h5⟩ := h
  refine ⟨fun k' hk' => ?_, fun k' hk' => ?_, ?_, fun i hi => ?_, fun i hi => ?_⟩
  · have := h1 k' hk'
    rw [up_ne (show 4 * k' ≠ 4 * k + 1 by omega), up_ne (show 4 * k' + 2 ≠ 4 * k + 1 by omega)]
    simp only [g_sI, Nat.reduceEqDiff, false_and, if_false, true_and]
    refine ⟨this.1, ?_, this.2.2⟩
    by_cases z : k' = k
    · rw [if_pos z, z, up_eq]
    · rw [if_neg z, up_ne (by omega)]; exact this.2.1
  · have := h2 k' hk'
    rw [pgs_up (by omega), up_ne (show 16 ≠ 4 * k + 1 by omega), up_ne (show 4 * k' + 3 ≠ 4 * k + 1 by omega)]
    exact this
  · rw [up_ne (by omega), up_ne (by omega), up_ne (by omega), up_ne (by omega)]; exact h3
  · rw [up_ne (by omega)] at hi
    rw [up_ne (by omega), up_ne (by omega), up_ne (by omega)]; exact h4 i hi
  · rw [up_ne (by omega)] at hi
    rw [up_ne (by omega), up_ne (by omega), up_ne (by omega)]; exact h5 i hi
theorem CW.style (h : CW σ j K W) {k : Nat} {v : Int} (hk : k < 4) : CW (sI σ 43 j k v) j K (up W (4 * k + 2) v) := by
  obtain ⟨h1, h2, h3, h4, h5⟩ := h
  refine ⟨fun k' hk' => ?_, fun k' hk' => ?_, ?_, fun i hi => ?_, fun i hi => ?_⟩
  · have := h1 k' hk'
    rw [up_ne (show 4 * k' ≠ 4 * k + 2 by omega), up_ne (show 4 * k' + 1 ≠ 4 * k + 2 by omega)]
    simp only [g_sI, Nat.reduceEqDiff, false_and, if_false, true_and]
    refine ⟨this.1, this.2.1, ?_⟩
    by_cases z : k' = k
    · rw [if_pos z, z, up_eq]
    · rw [if_neg z, up_ne (by omega)]; exact this.2.2
  · have := h2 k' hk'
    rw [pgs_up (by omega), up_ne (show 16 ≠ 4 * k + 2 by omega), up_ne (show 4 * k' + 3 ≠ 4 * k + 2 by omega)]
    exact this
  · rw [up_ne (by omega), up_ne (by omega), up_ne (by omega), up_ne (by omega)]; exact h3
  · rw [up_ne (by omega)] at hi
    rw [up_ne (by omega), up_ne (by omega), up_ne (by omega)]; exact h4 i hi
  · rw [up_ne (by omega)] at hi
    rw [up_ne (by omega), up_ne (by omega), up_ne (by omega)]; exact h5 i hi
theorem CW.wins (h : CW σ j K W) {k : Nat} {v : Int} (hk : k < 4) : CW (sI σ 44 j k v) j K (up W (4 * k + 3) v) := by
  obtain ⟨h1, h2, h3, h4, h5⟩ := h
  refine ⟨fun k' hk' => ?_, fun k' hk' => ?_, ?_, fun i hi => ?_, fun i hi => ?_⟩
  · rw [up_ne (by omega), up_ne (by omega), up_ne (by omega)]; exact h1 k' hk'
  · have := h2 k' hk'
    rw [pgs_up (by omega), up_ne (show 16 ≠ 4 * k + 3 by omega)]
    simp only [g_sI, Nat.reduceEqDiff, false_and, if_false, true_and]
    refine ⟨?_, this.2⟩
    by_cases z : k' = k
    · rw [if_pos z, z, up_eq]
    · rw [if_neg z, up_ne (by omega)]; exact this.1
  · rw [up_ne (by omega), up_ne (by omega), up_ne (by omega), up_ne (by omega)]; exact h3
  · rw [up_ne (by omega)] at hi
    rw [up_ne (by omega), up_ne (by omega), up_ne (by omega)]; exact h4 i hi
  · rw [up_ne (by omega)] at hi
    rw [up_ne (by omega), up_ne (by omega), up_ne (by omega)]; exact h5 i hi
theorem CW.coins (h : CW σ j K W) {v : Int} (hK : K ≤ 4) : CW (sI σ 8 j 10 v) j K (up W 17 v) := by
  obtain ⟨h1, h2, h3, h4, h5⟩ := h
  refine ⟨fun k' hk' => ?_, fun k' hk' => ?_, ?_, fun i hi => ?_, fun i hi => ?_⟩
  · rw [up_ne (by omega), up_ne (by omega), up_ne (by omega)]; exact h1 k' hk'
  · rw [pgs_up (by omega), up_ne (show 16 ≠ 17 by omega), up_ne (by omega)]; exact h2 k' hk'
  · rw [up_ne (by omega), up_ne (by omega), up_eq, up_ne (by omega)]
    simp only [g_sI, Nat.reduceEqDiff, and_false, if_false, and_self, if_true]
    exact ⟨h3.1, h3.2.1, trivial, h3.2.2.2⟩
  · rw [up_ne (by omega)] at hi
    rw [up_ne (by omega), up_ne (by omega), up_ne (by omega)]; exact h4 i hi
  · rw [up_ne (by omega)] at hi
    rw [up_ne (by omega), up_ne (by omega), up_ne (by omega)]; exact h5 i hi
theorem CW.year (h : CW σ j K W) {v : Int} (hK : K ≤ 4) : CW (sI σ 8 j 11 v) j K (up W 18 v) := by
  obtain ⟨h1, h2, h3, h4, h5⟩ := h
  refine ⟨fun k' hk' => ?_, fun k' hk' => ?_, ?_, fun i hi => ?_, fun i hi => ?_⟩
  · rw [up_ne (by omega), up_ne (by omega), up_ne (by omega)]; exact h1 k' hk'
  · rw [pgs_up (by omega), up_ne (show 16 ≠ 18 by omega), up_ne (by omega)]; exact h2 k' hk'
  · rw [up_ne (by omega), up_ne (by omega), up_ne (by omega), up_eq]
    simp only [g_sI, Nat.reduceEqDiff, and_false, if_false, and_self, if_true]
    exact ⟨h3.1, h3.2.1, h3.2.2.1, trivial⟩
  · rw [up_ne (by omega)] at hi
    rw [up_ne (by omega), up_ne (by omega), up_ne (by omega)]; exact h4 i hi
  · rw [up_ne (by omega)] at hi
    rw [up_ne (by omega), up_ne (by omega), up_ne (by omega)]; exact h5 i hi
theorem CW.fr {S : jS} {τ : jM} (hF : Fr S σ τ) (hs : ∀ k o, (k = 8 ∨ (41 ≤ k ∧ k ≤ 48)) → ¬ S k j o) (h : CW σ j K W) : CW τ j K W := by
  obtain ⟨h1, h2, h3, h4, h5⟩ := h
  refine ⟨fun k hk => ?_, fun k hk => ?_, ?_, fun i hi => ?_, fun i hi => ?_⟩
  · rw [hF.i (hs 41 _ (by omega)), hF.i (hs 42 _ (by omega)), hF.i (hs 43 _ (by omega))]; exact h1 k hk
  · rw [hF.i (hs 44 _ (by omega)), hF.i (hs 45 _ (by omega)), hF.i (hs 46 _ (by omega))]; exact h2 k hk
  · rw [hF.i (hs 8 8 (by omega)), hF.i (hs 8 9 (by omega)), hF.i (hs 8 10 (by omega)), hF.i (hs 8 11 (by omega))]; exact h3
  · rw [hF.i (hs 47 _ (by omega))]; exact h4 i hi
  · rw [hF.i (hs 48 _ (by omega))]; exact h5 i hi
theorem CR.fr {S : jS} {τ : jM} {r F : Nat} {ru G : Nat → Int} (hF : Fr S σ τ) (hs : ∀ k o, (k = 5 ∨ (29 ≤ k ∧ k ≤ 32)) → ¬ S k r o) (h : CR σ r K F ru G) : CR τ r K F ru G := by
  obtain ⟨h1, h2, h3, h4⟩ := h
  refine ⟨by rw [hF.i (hs 5 8 (by omega))]; exact h1, by rw [hF.i (hs 5 9 (by omega))]; exact h2, by rw [hF.i (hs 5 11 (by omega))]; exact h3, fun f hf => ?_⟩
  rw [hF.i (hs 29 _ (by omega)), hF.i (hs 30 _ (by omega)), hF.i (hs 31 _ (by omega)), hF.i (hs 32 _ (by omega))]
  exact h4 f hf
end CWS
