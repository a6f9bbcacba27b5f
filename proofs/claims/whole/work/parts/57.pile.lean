/-! ===== 57 Law: worth, the pile ===== -/
/-- what worth may change: the law's pile and letters -/
def AW (l : Nat) (σ τ : jM) : Prop := τ.2 = σ.2 ∧ ∀ k j o, (j = l ∧ (k = 24 ∨ k = 25)) ∨ τ.1 k j o = σ.1 k j o
theorem AW.rf (l : Nat) (σ : jM) : AW l σ σ := ⟨rfl, fun _ _ _ => Or.inr rfl⟩
theorem AW.at {l : Nat} {σ τ : jM} (h : AW l σ τ) {k j o : Nat} (hk : ¬ (j = l ∧ (k = 24 ∨ k = 25))) : τ.1 k j o = σ.1 k j o := (h.2 k j o).resolve_left hk
theorem AW.put {l : Nat} {σ τ : jM} (h : AW l σ τ) {k p : Nat} {v : Int} (hk : k = 24 ∨ k = 25) : AW l σ (sI τ k l p v) := by
  refine ⟨h.1, fun k' j o => ?_⟩
  simp only [g_sI]
  by_cases hz : k' = k ∧ j = l ∧ o = p
  · exact Or.inl ⟨hz.2.1, by rw [hz.1]; exact hk⟩
  · rw [if_neg hz]; exact h.2 k' j o
section PI
variable {At : Nat → jWp} {Φ : jPh} {d l : Nat} {σ : jM} {C : List Int} {e : Nat → Int} {a1 a2 a3 a4 a5 a6 : Int}
/-- the letters stand, the pile is s, its top last -/
def ST (l : Nat) (σ : jM) (e : Nat → Int) (τ : jM) (s : List Int) : Prop := AW l σ τ ∧ (∀ k, k < 6 → τ.1 25 l k = e k) ∧ ∀ i, i < s.length → τ.1 24 l i = s.getD i 0
abbrev lcs (l : Nat) (a1 a2 a3 a4 a5 a6 top at_ : Int) (x y : Option jV) : jL := [some (rf 3 l), some (.inl a1), some (.inl a2), some (.inl a3), some (.inl a4), some (.inl a5), some (.inl a6), some (.inl top), some (.inl at_), x, y]
theorem ST.push {τ : jM} {s : List Int} {v : Int} (h : ST l σ e τ s) : ST l σ e (sI τ 24 l s.length v) (s ++ [v]) := by
  refine ⟨h.1.put (Or.inl rfl), fun k hk => ?_, fun i hi => ?_⟩
  · simp only [g_sI]; rw [if_neg (by omega)]; exact h.2.1 k hk
  · simp only [g_sI, true_and]
    simp only [List.length_append, List.length_cons, List.length_nil] at hi
    by_cases z : i = s.length
    · rw [if_pos z, z]; simp
    · rw [if_neg z, h.2.2 i (by omega)]
      simp only [List.getD_eq_getElem?_getD, List.getElem?_append_left (show i < s.length by omega)]
theorem ST.low {τ : jM} {s t : List Int} (h : ST l σ e τ (s ++ t)) : ST l σ e τ s := by
  refine ⟨h.1, h.2.1, fun i hi => ?_⟩
  rw [h.2.2 i (by rw [List.length_append]; omega)]
  simp only [List.getD_eq_getElem?_getD, List.getElem?_append_left (show i < s.length by omega)]
theorem ST.top {τ : jM} {s : List Int} {v : Int} (h : ST l σ e τ (s ++ [v])) : τ.1 24 l s.length = v := by
  rw [h.2.2 s.length (by rw [List.length_append]; simp)]
  simp
theorem ST.top2 {τ : jM} {s : List Int} {v u : Int} (h : ST l σ e τ (s ++ [v] ++ [u])) : τ.1 24 l s.length = v ∧ τ.1 24 l (s.length + 1) = u := by
  refine ⟨h.low.top, ?_⟩
  have := h.top
  rwa [List.length_append] at this
theorem fetch (h51 : ∀ ls st τ, w_LA_worth_51 At Φ d ls st τ → At 51 ls st τ) (hC : LV σ l C) {τ : jM} {s : List Int} {i o g : Nat} {x y : Option jV} (hs : ST l σ e τ s) (hl : s.length ≤ 32) (hi : i < C.length) (hw : C.getD i 0 = ((o * 16 + g : Nat) : Int)) (ho : o < 100000000) (hg : g < 16) (h1 : g ≤ 1 → s.length < 32 ∧ w_LA_worth_108 At Φ d (lcs l a1 a2 a3 a4 a5 a6 s.length i (some (.inl g)) (some (.inl o))) [] τ) (h2 : 1 < g → w_LA_worth_141 At Φ d (lcs l a1 a2 a3 a4 a5 a6 s.length i (some (.inl g)) (some (.inl o))) [] τ) : At 51 (lcs l a1 a2 a3 a4 a5 a6 s.length i x y) [] τ := by
  obtain ⟨c1, c2, c3⟩ := hC
  have e3 : τ.1 3 l 3 = C.length := by rw [hs.1.at (by omega)]; exact c1
  have e23 : τ.1 23 l i = ((o * 16 + g : Nat) : Int) := by rw [hs.1.at (by omega), c3 i hi]; exact hw
  refine h51 _ _ _ ?_
  simp only [w_LA_worth_51, c_ic, c_lc, c_nul, c_il, c_ll, c_al, c_is, c_ls, c_as, c_inc, c_b2, c_b2n, c_b1, c_d2, c_d2n, c_dsh, c_i2l, c_l2i, c_lcm, c_dup, c_dup2, c_pop, c_j1, c_j2, c_jn, c_sw0, c_sw, c_gI, c_gL, c_gR, c_gS, c_pI, c_pZ, c_pL, c_pR, c_iald, c_ialg, c_iast, c_iasg, c_bald, c_bast, c_lald, c_last, c_aald, c_aals, c_aast, c_alen, c_bnd, c_str, c_bndl, c_bnln, c_sval, c_scod, c_sbal, c_sbln, c_fmt, c_stop, c_iret, c_zret, c_nret, c_aret, c_vret, c_lret, c_cpy, c_callV, c_callS, tkA, lget, lput, lkill, jpush, vsz, jcat, lins, lent, List.length_cons, List.length_nil, List.replicate, List.append_nil, List.cons_append, List.nil_append, reduceIte, Nat.reduceAdd, Nat.reduceSub, Nat.reduceEqDiff, true_and, and_true, Nat.reduceLeDiff, Nat.lt_irrefl, Nat.succ_ne_self, forall_const, ne_eq, not_true_eq_false, not_false_eq_true, false_implies, implies_true, true_implies, true_or, or_true, or_false, false_or, eq_self, Int.reduceEq, Int.reduceLT, Int.reduceLE, Int.reduceNeg, Int.reduceToNat, Int.reduceAdd, Int.reduceSub, Int.reduceMul, Int.reduceNe, and_self, jln, e3, Int.toNat_natCast, e23, word_s ho hg, word_o ho hg]
  refine ⟨fun z => absurd z (by omega), fun _ => ⟨by decide, fun z => absurd z (by omega), fun _ => ⟨⟨by omega, by omega⟩, ⟨by omega, by omega⟩, fun z => h2 (by omega), fun z => ⟨fun _ => (h1 (by omega)).2, fun z2 => absurd z2 (by have := (h1 (by omega)).1; omega)⟩⟩⟩⟩
theorem l_at {pre seg post : List Int} {w : Int} {C : List Int} (h : C = pre ++ seg ++ [w] ++ post) : pre.length + seg.length < C.length ∧ C.getD (pre.length + seg.length) 0 = w := by
  rw [h]
  refine ⟨by simp only [List.length_append, List.length_cons, List.length_nil]; omega, ?_⟩
  rw [List.append_assoc, List.append_assoc, ← List.append_assoc, List.getD_eq_getElem?_getD, List.getElem?_append_right (by rw [List.length_append]; omega), List.length_append]
  simp
/-- a stretch of code lays v on the pile -/
def Seg (At : Nat → jWp) (l : Nat) (σ : jM) (e : Nat → Int) (C : List Int) (a1 a2 a3 a4 a5 a6 : Int) (h : Nat) (seg : List Int) (v : Int) : Prop := ∀ (pre post s : List Int) (τ : jM) (x y : Option jV), C = pre ++ seg ++ post → s.length + h ≤ 32 → ST l σ e τ s → (∀ τ' x' y', ST l σ e τ' (s ++ [v]) → At 51 (lcs l a1 a2 a3 a4 a5 a6 (s.length + 1 : Nat) (pre.length + seg.length : Nat) x' y') [] τ') → At 51 (lcs l a1 a2 a3 a4 a5 a6 s.length pre.length x y) [] τ
theorem seg_all (h51 : ∀ ls st τ, w_LA_worth_51 At Φ (d + 1) ls st τ → At 51 ls st τ) (hC : LV σ l C) (hB : eB e) {t : Bool} {h : Nat} {seg : List Int} {v : Int} (hv : Ev e t h seg v) : 1 ≤ h ∧ Seg At l σ e C a1 a2 a3 a4 a5 a6 h seg v := by
  have c240 := hC.2.1
  -- two numbers joined
  have bin : ∀ (o h1 h2 h : Nat) (t1 : Bool) (c1 c2 : List Int) (v1 v2 : Int), 5 ≤ o → o ≤ 13 → t1 = decide (12 ≤ o) → (inB t1 v1 ∧ 1 ≤ h1 ∧ Seg At l σ e C a1 a2 a3 a4 a5 a6 h1 c1 v1) → (inB t1 v2 ∧ 1 ≤ h2 ∧ Seg At l σ e C a1 a2 a3 a4 a5 a6 h2 c2 v2) → h1 ≤ h → h2 + 1 ≤ h → 1 ≤ h ∧ Seg At l σ e C a1 a2 a3 a4 a5 a6 h (c1 ++ c2 ++ [(o : Int)]) (jvn o v1 v2) := by
    intro o h1 h2 h t1 c1 c2 v1 v2 o5 o13 ht ⟨b1, g1, s1⟩ ⟨b2, g2, s2⟩ hh1 hh2
    refine ⟨by omega, fun pre post s τ x y hc hl hst hk => ?_⟩
    refine s1 pre (c2 ++ [(o : Int)] ++ post) s τ x y (by rw [hc]; simp only [List.append_assoc]) (by omega) hst (fun τ1 x1 y1 hst1 => ?_)
    have q2 := s2 (pre ++ c1) ([(o : Int)] ++ post) (s ++ [v1]) τ1 x1 y1 (by rw [hc]; simp only [List.append_assoc]) (by simp only [List.length_append, List.length_cons, List.length_nil]; omega) hst1 (fun τ2 x2 y2 hst2 => ?_)
    · simpa only [List.length_append, List.length_cons, List.length_nil] using q2
    · have hat := l_at (C := C) (pre := pre ++ c1) (seg := c2) (w := (o : Int)) (post := post) (by rw [hc]; simp only [List.append_assoc])
      have hlen : (s ++ [v1] ++ [v2]).length = s.length + 2 := by simp
      have hL : (s ++ [v1]).length + 1 = (s ++ [v1] ++ [v2]).length := by simp
      rw [hL]
      refine fetch h51 hC (o := 0) (g := o) hst2 (by rw [hlen]; omega) hat.1 (by rw [hat.2]; omega) (by decide) (by omega) (fun z => absurd z (by omega)) (fun _ => ?_)
      rw [hlen]
      obtain ⟨e1, e2⟩ := hst2.top2
      have w1 : wr (((s.length + 2 : Nat) : Int) + -1) = ((s.length + 1 : Nat) : Int) := by rw [wr_id (by omega) (by omega)]; omega
      have w2 : wr (((s.length + 1 : Nat) : Int) - 1) = ((s.length : Nat) : Int) := by rw [wr_id (by omega) (by omega)]; omega
      simp only [w_LA_worth_141, w_LA_worth_149, w_LA_worth_165, w_LA_worth_203, w_LA_worth_232, w_LA_worth_240, w_LA_worth_273, c_ic, c_lc, c_nul, c_il, c_ll, c_al, c_is, c_ls, c_as, c_inc, c_b2, c_b2n, c_b1, c_d2, c_d2n, c_dsh, c_i2l, c_l2i, c_lcm, c_dup, c_dup2, c_pop, c_j1, c_j2, c_jn, c_sw0, c_sw, c_gI, c_gL, c_gR, c_gS, c_pI, c_pZ, c_pL, c_pR, c_iald, c_ialg, c_iast, c_iasg, c_bald, c_bast, c_lald, c_last, c_aald, c_aals, c_aast, c_alen, c_bnd, c_str, c_bndl, c_bnln, c_sval, c_scod, c_sbal, c_sbln, c_fmt, c_stop, c_iret, c_zret, c_nret, c_aret, c_vret, c_lret, c_cpy, c_callV, c_callS, tkA, lget, lput, lkill, jpush, vsz, jcat, lins, lent, List.length_cons, List.length_nil, List.replicate, List.append_nil, List.cons_append, List.nil_append, reduceIte, Nat.reduceAdd, Nat.reduceSub, Nat.reduceEqDiff, true_and, and_true, Nat.reduceLeDiff, Nat.lt_irrefl, Nat.succ_ne_self, forall_const, ne_eq, not_true_eq_false, not_false_eq_true, false_implies, implies_true, true_implies, true_or, or_true, or_false, false_or, eq_self, Int.reduceEq, Int.reduceLT, Int.reduceLE, Int.reduceNeg, Int.reduceToNat, Int.reduceAdd, Int.reduceSub, Int.reduceMul, Int.reduceNe, and_self, w1, w2, Int.toNat_natCast, e1, e2]
      refine ⟨fun _ => ⟨fun _ => ⟨fun _ => ⟨fun _ => ⟨fun _ => ⟨⟨by omega, by omega⟩, ⟨by omega, by omega⟩, ?_⟩, fun z => absurd z (by omega)⟩, fun z => absurd z (by omega)⟩, fun z => absurd z (by omega)⟩, fun z => absurd z (by omega)⟩, fun z => absurd z (by omega)⟩
      subst ht
      refine ok_LA_joined o5 o13 b1 b2 ?_
      simp only [c_ic, c_lc, c_nul, c_il, c_ll, c_al, c_is, c_ls, c_as, c_inc, c_b2, c_b2n, c_b1, c_d2, c_d2n, c_dsh, c_i2l, c_l2i, c_lcm, c_dup, c_dup2, c_pop, c_j1, c_j2, c_jn, c_sw0, c_sw, c_gI, c_gL, c_gR, c_gS, c_pI, c_pZ, c_pL, c_pR, c_iald, c_ialg, c_iast, c_iasg, c_bald, c_bast, c_lald, c_last, c_aald, c_aals, c_aast, c_alen, c_bnd, c_str, c_bndl, c_bnln, c_sval, c_scod, c_sbal, c_sbln, c_fmt, c_stop, c_iret, c_zret, c_nret, c_aret, c_vret, c_lret, c_cpy, c_callV, c_callS, tkA, lget, lput, lkill, jpush, vsz, jcat, lins, lent, List.length_cons, List.length_nil, List.replicate, List.append_nil, List.cons_append, List.nil_append, reduceIte, Nat.reduceAdd, Nat.reduceSub, Nat.reduceEqDiff, true_and, and_true, Nat.reduceLeDiff, Nat.lt_irrefl, Nat.succ_ne_self, forall_const, ne_eq, not_true_eq_false, not_false_eq_true, false_implies, implies_true, true_implies, true_or, or_true, or_false, false_or, eq_self, Int.reduceEq, Int.reduceLT, Int.reduceLE, Int.reduceNeg, Int.reduceToNat, Int.reduceAdd, Int.reduceSub, Int.reduceMul, Int.reduceNe, and_self, Int.toNat_natCast]
      refine ⟨⟨by omega, by omega⟩, ?_⟩
      have hi := hat.1
      rw [inc_nat (by omega)]
      have := hk _ (some (.inl (o : Int))) (some (.inl ((0 : Nat) : Int))) (hst2.low.low.push (v := jvn o v1 v2))
      simp only [List.length_append, List.length_cons, List.length_nil] at this ⊢
      rw [show pre.length + (c1.length + c2.length + (0 + 1)) = pre.length + c1.length + c2.length + 1 by omega] at this
      exact this
  have key := hv (fun t h seg v => inB t v ∧ 1 ≤ h ∧ Seg At l σ e C a1 a2 a3 a4 a5 a6 h seg v) ⟨fun v h0 h9 => ⟨⟨fun _ => (by omega), fun z => (by cases z)⟩, Nat.le_refl 1, fun pre post s τ x y hc hl hst hk => ?_⟩, fun k hk6 => ⟨⟨fun _ => hB k hk6, fun z => (by cases z)⟩, Nat.le_refl 1, fun pre post s τ x y hc hl hst hk => ?_⟩,
    fun o h1 h2 h c1 c2 v1 v2 o5 o8 p1 p2 hh1 hh2 => ⟨⟨fun _ => jvn_ari o5 o8, fun z => (by cases z)⟩, bin o h1 h2 h false c1 c2 v1 v2 o5 (by omega) (by simp; omega) p1 p2 hh1 hh2⟩,
    fun o h1 h2 h c1 c2 v1 v2 o5 o8 p1 p2 hh1 hh2 => ⟨⟨fun z => (by cases z), fun _ => jvn_tr o5 (by omega)⟩, bin o h1 h2 h false c1 c2 v1 v2 (by omega) (by omega) (by simp; omega) p1 p2 hh1 hh2⟩,
    fun o h1 h2 h c1 c2 v1 v2 o5 o8 p1 p2 hh1 hh2 => ⟨⟨fun z => (by cases z), fun _ => jvn_tr (by omega) o8⟩, bin o h1 h2 h true c1 c2 v1 v2 (by omega) (by omega) (by simp; omega) p1 p2 hh1 hh2⟩,
    fun h c v hp => ⟨⟨fun z => (by cases z), fun _ => (by rcases hp.1.2 rfl with z | z <;> omega)⟩, hp.2.1, fun pre post s τ x y hc hl hst hk => ?_⟩,
    fun t h h' c v hp hh => ⟨hp.1, by omega, fun pre post s τ x y hc hl hst hk => hp.2.2 pre post s τ x y hc (by omega) hst hk⟩⟩
  · exact key.2
  · -- a number
    have hat := l_at (C := C) (pre := pre) (seg := []) (w := v * 16) (post := post) (by rw [hc]; simp only [List.append_nil])
    rw [List.length_nil, Nat.add_zero] at hat
    refine fetch h51 hC (o := v.toNat) (g := 0) hst (by omega) hat.1 (by rw [hat.2]; omega) (by omega) (by decide) (fun _ => ⟨by omega, ?_⟩) (fun z => absurd z (by omega))
    simp only [w_LA_worth_108, w_LA_worth_134, w_LA_worth_273, c_ic, c_lc, c_nul, c_il, c_ll, c_al, c_is, c_ls, c_as, c_inc, c_b2, c_b2n, c_b1, c_d2, c_d2n, c_dsh, c_i2l, c_l2i, c_lcm, c_dup, c_dup2, c_pop, c_j1, c_j2, c_jn, c_sw0, c_sw, c_gI, c_gL, c_gR, c_gS, c_pI, c_pZ, c_pL, c_pR, c_iald, c_ialg, c_iast, c_iasg, c_bald, c_bast, c_lald, c_last, c_aald, c_aals, c_aast, c_alen, c_bnd, c_str, c_bndl, c_bnln, c_sval, c_scod, c_sbal, c_sbln, c_fmt, c_stop, c_iret, c_zret, c_nret, c_aret, c_vret, c_lret, c_cpy, c_callV, c_callS, tkA, lget, lput, lkill, jpush, vsz, jcat, lins, lent, List.length_cons, List.length_nil, List.replicate, List.append_nil, List.cons_append, List.nil_append, reduceIte, Nat.reduceAdd, Nat.reduceSub, Nat.reduceEqDiff, true_and, and_true, Nat.reduceLeDiff, Nat.lt_irrefl, Nat.succ_ne_self, forall_const, ne_eq, not_true_eq_false, not_false_eq_true, false_implies, implies_true, true_implies, true_or, or_true, or_false, false_or, eq_self, Int.reduceEq, Int.reduceLT, Int.reduceLE, Int.reduceNeg, Int.reduceToNat, Int.reduceAdd, Int.reduceSub, Int.reduceMul, Int.reduceNe, and_self, Int.cast_ofNat_Int, Int.toNat_natCast]
    refine ⟨⟨by omega, by omega⟩, ?_⟩
    rw [inc_nat (by omega), inc_nat (by omega), show ((v.toNat : Nat) : Int) = v by omega]
    exact hk _ _ _ (hst.push (v := v))
  · -- a letter
    have hat := l_at (C := C) (pre := pre) (seg := []) (w := (k : Int) * 16 + 1) (post := post) (by rw [hc]; simp only [List.append_nil])
    rw [List.length_nil, Nat.add_zero] at hat
    refine fetch h51 hC (o := k) (g := 1) hst (by omega) hat.1 (by rw [hat.2]; omega) (by omega) (by decide) (fun _ => ⟨by omega, ?_⟩) (fun z => absurd z (by omega))
    have h7 : jand (k : Int) 7 = k := by
      have := jand_mod (x := k) 3 (by omega)
      rw [show ((2 ^ 3 - 1 : Nat) : Int) = 7 by decide] at this
      rw [this]
      omega
    simp only [w_LA_worth_108, w_LA_worth_124, w_LA_worth_134, w_LA_worth_273, c_ic, c_lc, c_nul, c_il, c_ll, c_al, c_is, c_ls, c_as, c_inc, c_b2, c_b2n, c_b1, c_d2, c_d2n, c_dsh, c_i2l, c_l2i, c_lcm, c_dup, c_dup2, c_pop, c_j1, c_j2, c_jn, c_sw0, c_sw, c_gI, c_gL, c_gR, c_gS, c_pI, c_pZ, c_pL, c_pR, c_iald, c_ialg, c_iast, c_iasg, c_bald, c_bast, c_lald, c_last, c_aald, c_aals, c_aast, c_alen, c_bnd, c_str, c_bndl, c_bnln, c_sval, c_scod, c_sbal, c_sbln, c_fmt, c_stop, c_iret, c_zret, c_nret, c_aret, c_vret, c_lret, c_cpy, c_callV, c_callS, tkA, lget, lput, lkill, jpush, vsz, jcat, lins, lent, List.length_cons, List.length_nil, List.replicate, List.append_nil, List.cons_append, List.nil_append, reduceIte, Nat.reduceAdd, Nat.reduceSub, Nat.reduceEqDiff, true_and, and_true, Nat.reduceLeDiff, Nat.lt_irrefl, Nat.succ_ne_self, forall_const, ne_eq, not_true_eq_false, not_false_eq_true, false_implies, implies_true, true_implies, true_or, or_true, or_false, false_or, eq_self, Int.reduceEq, Int.reduceLT, Int.reduceLE, Int.reduceNeg, Int.reduceToNat, Int.reduceAdd, Int.reduceSub, Int.reduceMul, Int.reduceNe, and_self, Int.cast_ofNat_Int, Int.toNat_natCast, h7]
    refine ⟨⟨by omega, by omega⟩, ⟨by omega, by omega⟩, ?_⟩
    rw [inc_nat (by omega), inc_nat (by omega), hst.2.1 k hk6]
    exact hk _ _ _ (hst.push (v := e k))
  · -- not
    refine hp.2.2 pre ([4] ++ post) s τ x y (by rw [hc]; simp only [List.append_assoc]) hl hst (fun τ1 x1 y1 hst1 => ?_)
    have hat := l_at (C := C) (pre := pre) (seg := c) (w := 4) (post := post) (by rw [hc]; simp only [List.append_assoc])
    have hlen : (s ++ [v]).length = s.length + 1 := by simp
    have h1 := hp.2.1
    rw [← hlen]
    refine fetch h51 hC (o := 0) (g := 4) hst1 (by rw [hlen]; omega) hat.1 (by rw [hat.2]; decide) (by decide) (by omega) (fun z => absurd z (by omega)) (fun _ => ?_)
    rw [hlen]
    have e1 := hst1.top
    have w2 : wr (((s.length + 1 : Nat) : Int) - 1) = ((s.length : Nat) : Int) := by rw [wr_id (by omega) (by omega)]; omega
    simp only [w_LA_worth_141, w_LA_worth_149, w_LA_worth_165, w_LA_worth_203, w_LA_worth_273, c_ic, c_lc, c_nul, c_il, c_ll, c_al, c_is, c_ls, c_as, c_inc, c_b2, c_b2n, c_b1, c_d2, c_d2n, c_dsh, c_i2l, c_l2i, c_lcm, c_dup, c_dup2, c_pop, c_j1, c_j2, c_jn, c_sw0, c_sw, c_gI, c_gL, c_gR, c_gS, c_pI, c_pZ, c_pL, c_pR, c_iald, c_ialg, c_iast, c_iasg, c_bald, c_bast, c_lald, c_last, c_aald, c_aals, c_aast, c_alen, c_bnd, c_str, c_bndl, c_bnln, c_sval, c_scod, c_sbal, c_sbln, c_fmt, c_stop, c_iret, c_zret, c_nret, c_aret, c_vret, c_lret, c_cpy, c_callV, c_callS, tkA, lget, lput, lkill, jpush, vsz, jcat, lins, lent, List.length_cons, List.length_nil, List.replicate, List.append_nil, List.cons_append, List.nil_append, reduceIte, Nat.reduceAdd, Nat.reduceSub, Nat.reduceEqDiff, true_and, and_true, Nat.reduceLeDiff, Nat.lt_irrefl, Nat.succ_ne_self, forall_const, ne_eq, not_true_eq_false, not_false_eq_true, false_implies, implies_true, true_implies, true_or, or_true, or_false, false_or, eq_self, Int.reduceEq, Int.reduceLT, Int.reduceLE, Int.reduceNeg, Int.reduceToNat, Int.reduceAdd, Int.reduceSub, Int.reduceMul, Int.reduceNe, and_self, Int.cast_ofNat_Int, w2, Int.toNat_natCast, e1]
    refine ⟨fun _ => ⟨⟨by omega, by omega⟩, ⟨by omega, by omega⟩, ?_⟩, fun z => absurd z (by omega)⟩
    have hi := hat.1
    have hv01 := hp.1.2 rfl
    rw [inc_nat (by omega), wr_id (x := 1 - v) (by omega) (by omega)]
    have := hk _ (some (.inl 4)) (some (.inl 0)) (hst1.low.push (v := 1 - v))
    simp only [List.length_append, List.length_cons, List.length_nil] at this ⊢
    exact this
end PI
