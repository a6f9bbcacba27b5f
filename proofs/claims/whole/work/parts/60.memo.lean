/-! ===== 60 the model: laws kept, what is remembered of their worth; worthOf ===== -/
def kf (L m g s p w y : Int) : Int := 2000 * (1000 * (31 * (10 * (10 * (31 * (1 + L) + m) + g) + s) + p) + w) + y
def rg6 (m g s p w y : Int) : Prop := (0 ≤ m ∧ m ≤ 30) ∧ (0 ≤ g ∧ g ≤ 9) ∧ (0 ≤ s ∧ s ≤ 9) ∧ (0 ≤ p ∧ p ≤ 30) ∧ (0 ≤ w ∧ w ≤ 999) ∧ (0 ≤ y ∧ y ≤ 1999)
theorem kf_inj {L m g s p w y L' m' g' s' p' w' y' : Int} (h1 : rg6 m g s p w y) (h2 : rg6 m' g' s' p' w' y') (h : kf L m g s p w y = kf L' m' g' s' p' w' y') : L = L' ∧ m = m' ∧ g = g' ∧ s = s' ∧ p = p' ∧ w = w' ∧ y = y' := by
  obtain ⟨a1, a2, a3, a4, a5, a6⟩ := h1
  obtain ⟨b1, b2, b3, b4, b5, b6⟩ := h2
  unfold kf at h
  have e6 : y = y' := by omega
  have k6 : 1000 * (31 * (10 * (10 * (31 * (1 + L) + m) + g) + s) + p) + w = 1000 * (31 * (10 * (10 * (31 * (1 + L') + m') + g') + s') + p') + w' := by omega
  have e5 : w = w' := by omega
  have k5 : 31 * (10 * (10 * (31 * (1 + L) + m) + g) + s) + p = 31 * (10 * (10 * (31 * (1 + L') + m') + g') + s') + p' := by omega
  have e4 : p = p' := by omega
  have k4 : 10 * (10 * (31 * (1 + L) + m) + g) + s = 10 * (10 * (31 * (1 + L') + m') + g') + s' := by omega
  have e3 : s = s' := by omega
  have k3 : 10 * (31 * (1 + L) + m) + g = 10 * (31 * (1 + L') + m') + g' := by omega
  have e2 : g = g' := by omega
  have e1 : m = m' := by omega
  exact ⟨by omega, e1, e2, e3, e4, e5, e6⟩
theorem rg6.eB {m g s p w y : Int} (h : rg6 m g s p w y) : eB (env6 m g s p w y) := by
  obtain ⟨a1, a2, a3, a4, a5, a6⟩ := h
  intro k hk
  rcases (show k = 0 ∨ k = 1 ∨ k = 2 ∨ k = 3 ∨ k = 4 ∨ k = 5 by omega) with rfl | rfl | rfl | rfl | rfl | rfl <;> simp only [env6] <;> omega
/-- the laws kept: N of them, their codes CL -/
def ML (σ : jM) (N : Nat) (CL : Nat → List Int) : Prop := N ≤ 4 ∧ ∀ i, i < N → ∃ (n : Nat) (T : Nat → Int) (b : Nat), TX σ 1 (240 * i) n T ∧ σ.1 61 0 i = n ∧ pLaw T n = .inr (b, CL i) ∧ LOK (CL i)
def MM (σ : jM) (N : Nat) (CL : Nat → List Int) : Prop := ∀ i, i < 8191 → σ.2.1 70 0 i = 0 ∨ ∃ (L : Nat) (m g s p w y : Int), L < N ∧ rg6 m g s p w y ∧ σ.2.1 70 0 i = kf L m g s p w y ∧ σ.1 71 0 i = lawV (env6 m g s p w y) (CL L)
def MLt (σ : jM) : Prop := eB (fun k => σ.1 62 0 (sbyt 3 k).toNat)
def MI (σ : jM) (N : Nat) (CL : Nat → List Int) : Prop := ML σ N CL ∧ MM σ N CL ∧ MLt σ
/-- what reading a law's worth may change -/
def SM : jS := fun k j o => (k = 10 ∧ j = 0 ∧ (o = 5 ∨ (8 ≤ o ∧ o ≤ 14) ∨ o = 17)) ∨ (k = 62 ∧ j = 0) ∨ (k = 70 ∧ j = 0) ∨ (k = 71 ∧ j = 0)
theorem TX.fr {S : jS} {σ τ : jM} {w b0 n : Nat} {T : Nat → Int} (h : Fr S σ τ) (hs : ∀ o, ¬ S 60 w o) (H : TX σ w b0 n T) : TX τ w b0 n T := ⟨H.1, H.2.1, H.2.2.1, fun i hi => by rw [h.i (hs _)]; exact H.2.2.2.1 i hi, H.2.2.2.2⟩
theorem ML.fr {S : jS} {σ τ : jM} {N : Nat} {CL : Nat → List Int} (h : Fr S σ τ) (hs : ∀ o, ¬ S 60 1 o) (hs2 : ∀ o, ¬ S 61 0 o) (H : ML σ N CL) : ML τ N CL := by
  refine ⟨H.1, fun i hi => ?_⟩
  obtain ⟨n, T, b, h1, h2, h3, h4⟩ := H.2 i hi
  exact ⟨n, T, b, h1.fr h hs, by rw [h.i (hs2 _)]; exact h2, h3, h4⟩
theorem Fr.ms {S : jS} {σ τ : jM} {a f dp : Int} (h : Fr S σ τ) (hs : ∀ o, 10 ≤ o → o ≤ 12 → S 10 0 o) : Fr S σ (ms τ a f dp) := ((h.sI (hs 10 (by decide) (by decide))).sI (hs 11 (by decide) (by decide))).sI (hs 12 (by decide) (by decide))
theorem Fr.fsm {S : jS} {σ τ : jM} {o : Option Int} (h : Fr S σ τ) (hs : S 10 0 14) (hs2 : S 10 0 17) : Fr S σ (fs τ o) := by
  unfold fs
  split
  · exact h
  · split
    · exact (h.sI hs2).sI hs
    · exact h
theorem Fr.gt {σ τ : jM} {w b0 n : Nat} (h : Fr SM σ τ) : Fr SM σ (gt τ w b0 n) := (((((h.sR (k := 10) (j := 0) (o := 5) (Or.inl ⟨rfl, rfl, by decide⟩)).sI (Or.inl ⟨rfl, rfl, by decide⟩)).sI (Or.inl ⟨rfl, rfl, by decide⟩)).sI (Or.inl ⟨rfl, rfl, by decide⟩)).sI (Or.inl ⟨rfl, rfl, by decide⟩)).sI (Or.inl ⟨rfl, rfl, by decide⟩)
theorem lrm_eq {x y : Int} (hx : 0 ≤ x) (hx2 : x < 4611686018427387904) (hy : 0 < y) (hy2 : y < 2147483648) : lrm x y = x % y := by
  have h0 : (Int64.ofInt x / Int64.ofInt y) = Int64.ofInt (x / y) := by
    rw [← Int64.toInt_inj, Int64.toInt_div, show (Int64.ofInt x).toInt = x from wl_id (by omega) (by omega), show (Int64.ofInt y).toInt = y from wl_id (by omega) (by omega)]
    have h1 : x.tdiv y = x / y := Int.tdiv_eq_ediv_of_nonneg hx
    have h2 := Int.ediv_le_self y hx
    have h3 := Int.ediv_nonneg hx (show 0 ≤ y by omega)
    rw [h1, show (Int64.ofInt (x / y)).toInt = x / y from wl_id (by omega) (by omega)]
    exact Int.bmod_eq_of_le (by omega) (by omega)
  unfold lrm
  rw [h0, ← Int64.ofInt_mul, ← Int64.ofInt_sub]
  have h1 : x - x / y * y = x % y := by rw [Int.emod_def, Int.mul_comm]
  rw [h1]
  have h2 := Int.emod_nonneg x (show y ≠ 0 by omega)
  have h3 := Int.emod_lt_of_pos x hy
  exact wl_id (by omega) (by omega)
theorem lcm3_0 (x y : Int) : lcm3 x y = 0 ↔ x = y := by
  unfold lcm3
  split
  · constructor
    · intro h; cases h
    · intro h; omega
  · split
    · simp [*]
    · constructor
      · intro h; cases h
      · intro h; contradiction
theorem ok_MO_worthOf {σ : jM} {Φ : jPh} {d N L : Nat} {CL : Nat → List Int} {m g s p w y : Int} (hI : MI σ N CL) (hL : L < N) (hL0 : σ.1 10 0 34 = L) (hr : rg6 m g s p w y) (h : ∀ τ, Fr SM σ τ → MI τ N CL → Φ (some (.inl (lawV (env6 m g s p w y) (CL L)))) τ) : Ct (d + 33) M_MO_worthOf [rf 10 0, .inl m, .inl g, .inl s, .inl p, .inl w, .inl y] σ Φ := by
  obtain ⟨hML, hMM, hLt⟩ := hI
  have hN := hML.1
  refine i_MO_worthOf (Nat.le_add_right 7 3) ?_
  have hr' := hr
  obtain ⟨r1, r2, r3, r4, r5, r6⟩ := hr'
  simp only [w_MO_worthOf_0, c_ic, c_lc, c_nul, c_il, c_ll, c_al, c_is, c_ls, c_as, c_inc, c_b2, c_b2n, c_b1, c_d2, c_d2n, c_dsh, c_i2l, c_l2i, c_lcm, c_dup, c_dup2, c_pop, c_j1, c_j2, c_jn, c_sw0, c_sw, c_gI, c_gL, c_gR, c_gS, c_pI, c_pZ, c_pL, c_pR, c_iald, c_ialg, c_iast, c_iasg, c_bald, c_bast, c_lald, c_last, c_aald, c_aals, c_aast, c_alen, c_bnd, c_str, c_bndl, c_bnln, c_sval, c_scod, c_sbal, c_sbln, c_fmt, c_stop, c_iret, c_zret, c_nret, c_aret, c_vret, c_lret, c_cpy, c_callV, c_callS, tkA, lget, lput, lkill, jpush, vsz, jcat, lins, lent, List.length_cons, List.length_nil, List.replicate, List.append_nil, List.cons_append, List.nil_append, reduceIte, Nat.reduceAdd, Nat.reduceSub, Nat.reduceEqDiff, true_and, and_true, Nat.reduceLeDiff, Nat.lt_irrefl, Nat.succ_ne_self, forall_const, ne_eq, not_true_eq_false, not_false_eq_true, false_implies, implies_true, true_implies, true_or, or_true, or_false, false_or, eq_self, Int.reduceEq, Int.reduceLT, Int.reduceLE, Int.reduceNeg, Int.reduceToNat, Int.reduceAdd, Int.reduceSub, Int.reduceMul, Int.reduceNe, and_self, hL0]
  simp (disch := omega) only [wl_id]
  rw [show 2000 * (1000 * (31 * (10 * (10 * (31 * (1 + (L : Int)) + m) + g) + s) + p) + w) + y = kf L m g s p w y from rfl]
  have k1 : 0 < kf L m g s p w y := by unfold kf; omega
  have k2 : kf L m g s p w y < 1000000000000 := by unfold kf; omega
  revert k1 k2
  generalize hk : kf L m g s p w y = K
  intro k1 k2
  rw [lrm_eq (by omega) (by omega) (by decide) (by decide)]
  have q1 := Int.emod_nonneg K (show (8191 : Int) ≠ 0 by decide)
  have q2 := Int.emod_lt_of_pos K (show (0 : Int) < 8191 by decide)
  rw [wr_id (by omega) (by omega)]
  have q3 : (K % 8191).toNat < 8191 := by omega
  refine ⟨⟨q1, q2⟩, fun z => ?_, fun z => ⟨⟨q1, q2⟩, ?_⟩⟩
  · rw [lcm3_0] at z
    obtain ⟨n, T, b, h1, h2, h3, h4⟩ := hML.2 L hL
    simp only [w_MO_worthOf_108, c_ic, c_lc, c_nul, c_il, c_ll, c_al, c_is, c_ls, c_as, c_inc, c_b2, c_b2n, c_b1, c_d2, c_d2n, c_dsh, c_i2l, c_l2i, c_lcm, c_dup, c_dup2, c_pop, c_j1, c_j2, c_jn, c_sw0, c_sw, c_gI, c_gL, c_gR, c_gS, c_pI, c_pZ, c_pL, c_pR, c_iald, c_ialg, c_iast, c_iasg, c_bald, c_bast, c_lald, c_last, c_aald, c_aals, c_aast, c_alen, c_bnd, c_str, c_bndl, c_bnln, c_sval, c_scod, c_sbal, c_sbln, c_fmt, c_stop, c_iret, c_zret, c_nret, c_aret, c_vret, c_lret, c_cpy, c_callV, c_callS, tkA, lget, lput, lkill, jpush, vsz, jcat, lins, lent, List.length_cons, List.length_nil, List.replicate, List.append_nil, List.cons_append, List.nil_append, reduceIte, Nat.reduceAdd, Nat.reduceSub, Nat.reduceEqDiff, true_and, and_true, Nat.reduceLeDiff, Nat.lt_irrefl, Nat.succ_ne_self, forall_const, ne_eq, not_true_eq_false, not_false_eq_true, false_implies, implies_true, true_implies, true_or, or_true, or_false, false_or, eq_self, Int.reduceEq, Int.reduceLT, Int.reduceLE, Int.reduceNeg, Int.reduceToNat, Int.reduceAdd, Int.reduceSub, Int.reduceMul, Int.reduceNe, and_self, g_sI, g_sI2, g_sL1, g_sL, g_sL2, g_sR1, g_sR2, g_sR, g_sA, g_sA2, and_false, false_and, and_self, if_false, if_true, hL0, Int.toNat_natCast, h2]
    rw [wr_id (x := 240 * (L : Int)) (by omega) (by omega)]
    refine ⟨by decide, by decide, by decide, by decide, by decide, by decide, ⟨by omega, by omega⟩, ?_⟩
    rw [show 240 * (L : Int) = ((240 * L : Nat) : Int) by omega]
    have hF : Fr SM σ (sI (sI (sI (sI (sI (sI σ 62 0 109 m) 62 0 103 g) 62 0 115 s) 62 0 112 p) 62 0 119 w) 62 0 100 y) := ((((((Fr.rf.sI (Or.inr (Or.inl ⟨rfl, rfl⟩))).sI (Or.inr (Or.inl ⟨rfl, rfl⟩))).sI (Or.inr (Or.inl ⟨rfl, rfl⟩))).sI (Or.inr (Or.inl ⟨rfl, rfl⟩))).sI (Or.inr (Or.inl ⟨rfl, rfl⟩))).sI (Or.inr (Or.inl ⟨rfl, rfl⟩)))
    have hE : EL (sI (sI (sI (sI (sI (sI σ 62 0 109 m) 62 0 103 g) 62 0 115 s) 62 0 112 p) 62 0 119 w) 62 0 100 y) (env6 m g s p w y) := by
      intro k hk
      rcases (show k = 0 ∨ k = 1 ∨ k = 2 ∨ k = 3 ∨ k = 4 ∨ k = 5 by omega) with rfl | rfl | rfl | rfl | rfl | rfl <;> rfl
    have nS : ∀ o, ¬ SM 60 1 o := by intro o q; unfold SM at q; omega
    have nS2 : ∀ o, ¬ SM 61 0 o := by intro o q; unfold SM at q; omega
    refine ok_MO_goThrough (h1.fr hF nS) hE hr.eB ?_
    rw [h3]
    intro a' o ho
    simp only [c_ic, c_lc, c_nul, c_il, c_ll, c_al, c_is, c_ls, c_as, c_inc, c_b2, c_b2n, c_b1, c_d2, c_d2n, c_dsh, c_i2l, c_l2i, c_lcm, c_dup, c_dup2, c_pop, c_j1, c_j2, c_jn, c_sw0, c_sw, c_gI, c_gL, c_gR, c_gS, c_pI, c_pZ, c_pL, c_pR, c_iald, c_ialg, c_iast, c_iasg, c_bald, c_bast, c_lald, c_last, c_aald, c_aals, c_aast, c_alen, c_bnd, c_str, c_bndl, c_bnln, c_sval, c_scod, c_sbal, c_sbln, c_fmt, c_stop, c_iret, c_zret, c_nret, c_aret, c_vret, c_lret, c_cpy, c_callV, c_callS, tkA, lget, lput, lkill, jpush, vsz, jcat, lins, lent, List.length_cons, List.length_nil, List.replicate, List.append_nil, List.cons_append, List.nil_append, reduceIte, Nat.reduceAdd, Nat.reduceSub, Nat.reduceEqDiff, true_and, and_true, Nat.reduceLeDiff, Nat.lt_irrefl, Nat.succ_ne_self, forall_const, ne_eq, not_true_eq_false, not_false_eq_true, false_implies, implies_true, true_implies, true_or, or_true, or_false, false_or, eq_self, Int.reduceEq, Int.reduceLT, Int.reduceLE, Int.reduceNeg, Int.reduceToNat, Int.reduceAdd, Int.reduceSub, Int.reduceMul, Int.reduceNe, and_self]
    have e14 : ∀ G : jM, G.1 10 0 17 = 0 → G.1 10 0 14 = 0 → (ms (fs G o) a' (-1) 0).1 10 0 14 = lawV (env6 m g s p w y) (CL L) := by
      intro G g1 g2
      rw [← ho.val, ← fs_14 g1 g2]
      rfl
    rw [e14 _ rfl rfl]
    refine ⟨⟨q1, q2⟩, ⟨q1, q2⟩, ?_⟩
    have hF2 := (((Fr.fsm (o := o) (Fr.gt (w := 1) (b0 := 240 * L) (n := n) hF) (Or.inl ⟨rfl, rfl, by decide⟩) (Or.inl ⟨rfl, rfl, by decide⟩)).ms (a := a') (f := -1) (dp := 0) (fun o h1 h2 => Or.inl ⟨rfl, rfl, Or.inr (Or.inl ⟨by omega, by omega⟩)⟩)).sL (k := 70) (j := 0) (o := (K % 8191).toNat) (v := K) (Or.inr (Or.inr (Or.inl ⟨rfl, rfl⟩)))).sI (k := 71) (j := 0) (o := (K % 8191).toNat) (v := lawV (env6 m g s p w y) (CL L)) (Or.inr (Or.inr (Or.inr ⟨rfl, rfl⟩)))
    refine h _ hF2 ⟨hML.fr hF2 nS nS2, fun i hi => ?_, ?_⟩
    · simp only [g_sI, g_sI2, g_sL, true_and]
      by_cases hi2 : i = (K % 8191).toNat
      · rw [if_pos hi2, if_pos hi2]
        exact Or.inr ⟨L, m, g, s, p, w, y, hL, hr, hk.symm, rfl⟩
      · rw [if_neg hi2, if_neg hi2]
        have := hMM i hi
        rw [ms_2, fs_2]
        show σ.2.1 70 0 i = 0 ∨ ∃ (L : Nat) (m g s p w y : Int), L < N ∧ rg6 m g s p w y ∧ σ.2.1 70 0 i = kf L m g s p w y ∧ (fs _ o).1 71 0 i = lawV (env6 m g s p w y) (CL L)
        rw [fsA (by omega)]
        exact this
    · intro k hk
      have := rg6.eB hr k hk
      have e1 := hE k hk
      show -1000000 ≤ (fs _ o).1 62 0 _ ∧ (fs _ o).1 62 0 _ ≤ 1000000
      rw [fsA (by omega)]
      have e2 : ∀ v, (gt (sI (sI (sI (sI (sI (sI σ 62 0 109 m) 62 0 103 g) 62 0 115 s) 62 0 112 p) 62 0 119 w) 62 0 100 y) 1 (240 * L) n).1 62 0 v = (sI (sI (sI (sI (sI (sI σ 62 0 109 m) 62 0 103 g) 62 0 115 s) 62 0 112 p) 62 0 119 w) 62 0 100 y).1 62 0 v := fun v => rfl
      rw [e2, e1]
      exact this
  · rw [Classical.not_not, lcm3_0] at z
    rcases hMM _ q3 with h0 | ⟨L', m', g', s', p', w', y', hL', hr2, hk2, hv⟩
    · rw [h0] at z; omega
    · have := kf_inj hr hr2 (by rw [hk, ← z, hk2])
      obtain ⟨e1, rfl, rfl, rfl, rfl, rfl, rfl⟩ := this
      have : L = L' := by omega
      subst this
      rw [hv]
      exact h σ Fr.rf ⟨hML, hMM, hLt⟩
