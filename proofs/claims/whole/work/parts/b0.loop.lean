/-! ===== b0 the law: its loop ===== -/
theorem CtG.mono {d mc ms : Nat} {M : jMT} {as : List jV} {σ : jM} {a b : Int} {Φ Ψ : jPg} (h : CtG d mc ms M as σ a b Φ) (hi : ∀ r τ c e, Φ r τ c e → Ψ r τ c e) : CtG d mc ms M as σ a b Ψ := by
  intro l B hC hM ho hD
  have := h l B hC hM ho hD
  intro p e ha hc hk s m args below hf hm hp hkk
  obtain ⟨k, o, h1, h2, h3, ⟨⟨⟨r, τ, B', c, e', a1, a2, a3⟩, a4⟩, a5⟩⟩ := this p e ha hc hk s m args below hf hm hp hkk
  exact ⟨k, o, h1, h2, h3, ⟨⟨⟨r, τ, B', c, e', a1, hi r τ c e' a2, a3⟩, a4⟩, a5⟩⟩
section LOOP
variable {p : Program} {l : Launch} {e : Env} {s : State} {m : MethodId} {below : List Frame} {meth : Method} {c : Code} {b : Nat} {L : Nat} {xs : Nat → Int32} {s1 s2 : Nat}
def LX (p : Program) (l : Launch) (e : Env) (s : State) (m : MethodId) (below : List Frame) (meth : Method) (c : Code) (b : Nat) (B : jB) (cells slots : Nat) : jX := (p, l, e, room_1, s, m, #[Value.ref b], below, meth, c, lw_Z below #[Value.ref b] s, cells, slots, B, 7)
theorem LX.rm {B : jB} {cells slots : Nat} (h1 : cells ≤ 601024) (h2 : slots ≤ 7293034) : Rm (LX p l e s m below meth c b B cells slots) 60 := ⟨show 60 + 1 ≤ 2048 by decide, show 64 * (60 + 1) ≤ 84000 by decide, h1, h2⟩
theorem law_fin {B : jB} {cells slots : Nat} {ls : jL} {σ : jM} (hret : meth.sig.returnType = ret) (h : Cx (LX p l e s m below meth c b B cells slots) "LosersBooksLaw" code 7) (hB : B.2.2.2.2 = s.heap.size) (h1 : cells ≤ 601024) (h2 : slots ≤ 7293034) : AtX (LX p l e s m below meth c b B cells slots) 1590 ls [] σ := by
  obtain ⟨hx, hb, hml, hN, hown, hT, hK, hbase, hlocks, hRom, hC⟩ := h
  intro H locs rls hP hS hl hM hs hL
  refine lv_iconst (n := 1) hx hb (by decide +kernel) rfl ?_
  refine va_forget (fun q hq => ?_) ?_
  · have := hS.2.2 q hq
    have : B.2.2.2.2 ≤ q.base := this
    omega
  refine W.widen (k := 601024) (n := 7293034) h1 h2 ?_
  exact lw_ret hx hb hret hlocks (by decide +kernel)
theorem Scr.ext {B B' : jB} {cells slots cells' slots' : Nat} (h : Scr (LX p l e s m below meth c b B cells slots) L xs) (h92 : B'.1 92 = B.1 92) (hb : B'.2.2.2.2 = B.2.2.2.2) : Scr (LX p l e s m below meth c b B' cells' slots') L xs := by
  obtain ⟨g1, g2, g3, g4⟩ := h
  exact ⟨by rw [h92]; exact g1, by rw [h92]; exact g2, by rw [hb]; exact g3, g4⟩
theorem law_fault {B : jB} {cells slots i : Nat} {σ : jM} {q : Nat × Nat} {o5 o6 : Option jV} (h : Cx (LX p l e s m below meth c b B cells slots) "LosersBooksLaw" code 7) (hX : Scr (LX p l e s m below meth c b B cells slots) L xs) (hD : Dinv B.2.1 q.1 q.2) (h1 : cells + 1 ≤ 601024) (h2 : slots + 2 ≤ 7293034) (hi : i + 6 ≤ L) (hL : L ≤ 3072) (hJ : J q σ)
    (nx : ∀ (B' : jB) (q' : Nat × Nat), Ext B B' → Dinv B'.2.1 q'.1 q'.2 → Cx (LX p l e s m below meth c b B' (cells + 1) (slots + 2)) "LosersBooksLaw" code 7 → Scr (LX p l e s m below meth c b B' (cells + 1) (slots + 2)) L xs → Nx (AtX (LX p l e s m below meth c b B' (cells + 1) (slots + 2))) q' i) : AtX (LX p l e s m below meth c b B cells slots) 325 (lsL i o5 o6) [.inl (xs (i + 1)).toInt, rf 9 0] σ := by
  have e1 := wr_i (i := i) (L := L) (j := 1) 1 rfl (by decide) hi hL
  have e6 := wr_i (i := i) (L := L) (j := 6) 6 rfl (by decide) hi hL
  refine r_callG (X := LX p l e s m below meth c b B cells slots) (pc := 325) (d := 60) (mc := 1) (ms := 2) (K := 9) (n := 1) (M := M_LB_fault) (a := q.1) (b := q.2) (k := fun a' b' ls st τ => ls = lsL i o5 o6 ∧ ∃ v : Int, st = [.inl v] ∧ ∃ q' : Nat × Nat, a' = q'.1 ∧ b' = q'.2 ∧ Ct 60 M_MO_fault [rf 10 0, .inl (xs (i + 1)).toInt] τ (fun y τ' => y = some (.inl v) ∧ J q' τ')) h (LX.rm (by omega) (by omega)) v_LB_fault (by decide) (Or.inl k_360) hD (by decide +kernel) ⟨h1, h2⟩ ?_ _ _ _ ?_
  · intro X' a' b' hg hD' ls st τ hw
    obtain ⟨rfl, v, rfl, q', rfl, rfl, hct⟩ := hw
    have cx' := GX.cx hg h
    obtain ⟨B', hE, rfl⟩ := hg
    have scr' : Scr (LX p l e s m below meth c b B' (cells + 1) (slots + 2)) L xs := hX.ext (hE.2.1 92 (by decide)) (by rw [hE.1])
    refine s_LW_law_328 (X := LX p l e s m below meth c b B' (cells + 1) (slots + 2)) cx' (LX.rm (by omega) (by omega)) scr' _ _ _ ?_
    simp only [w_LW_law_328, lsL, c_ic, c_lc, c_nul, c_il, c_ll, c_al, c_is, c_ls, c_as, c_inc, c_b2, c_b2n, c_b1, c_d2, c_d2n, c_dsh, c_i2l, c_l2i, c_lcm, c_dup, c_dup2, c_pop, c_j1, c_j2, c_jn, c_sw0, c_sw, c_gI, c_gL, c_gR, c_gS, c_pI, c_pZ, c_pL, c_pR, c_iald, c_ialg, c_iast, c_iasg, c_bald, c_bast, c_lald, c_last, c_aald, c_aals, c_aast, c_alen, c_bnd, c_str, c_bndl, c_bnln, c_sval, c_scod, c_sbal, c_sbln, c_fmt, c_stop, c_iret, c_zret, c_nret, c_aret, c_vret, c_lret, c_cpy, c_callV, c_callS, tkA, lget, lput, lkill, jpush, vsz, jcat, lins, lent, List.length_cons, List.length_nil, List.replicate, List.append_nil, List.cons_append, List.nil_append, reduceIte, Nat.reduceAdd, Nat.reduceSub, Nat.reduceEqDiff, true_and, and_true, Nat.reduceLeDiff, Nat.lt_irrefl, Nat.succ_ne_self, forall_const, ne_eq, not_true_eq_false, not_false_eq_true, false_implies, implies_true, true_implies, true_or, or_true, or_false, false_or, eq_self, Int.reduceEq, Int.reduceLT, Int.reduceLE, Int.reduceNeg, Int.reduceToNat, Int.reduceAdd, Int.reduceSub, Int.reduceMul, Int.reduceNe, and_self, c_sld, e1, Int.toNat_natCast]
    refine ⟨⟨by omega, by omega⟩, Ct.mono hct (fun y τ2 hh => ?_)⟩
    obtain ⟨rfl, hJ2⟩ := hh
    simp only [w_LW_law_1584, c_ic, c_lc, c_nul, c_il, c_ll, c_al, c_is, c_ls, c_as, c_inc, c_b2, c_b2n, c_b1, c_d2, c_d2n, c_dsh, c_i2l, c_l2i, c_lcm, c_dup, c_dup2, c_pop, c_j1, c_j2, c_jn, c_sw0, c_sw, c_gI, c_gL, c_gR, c_gS, c_pI, c_pZ, c_pL, c_pR, c_iald, c_ialg, c_iast, c_iasg, c_bald, c_bast, c_lald, c_last, c_aald, c_aals, c_aast, c_alen, c_bnd, c_str, c_bndl, c_bnln, c_sval, c_scod, c_sbal, c_sbln, c_fmt, c_stop, c_iret, c_zret, c_nret, c_aret, c_vret, c_lret, c_cpy, c_callV, c_callS, tkA, lget, lput, lkill, jpush, vsz, jcat, lins, lent, List.length_cons, List.length_nil, List.replicate, List.append_nil, List.cons_append, List.nil_append, reduceIte, Nat.reduceAdd, Nat.reduceSub, Nat.reduceEqDiff, true_and, and_true, Nat.reduceLeDiff, Nat.lt_irrefl, Nat.succ_ne_self, forall_const, ne_eq, not_true_eq_false, not_false_eq_true, false_implies, implies_true, true_implies, true_or, or_true, or_false, false_or, eq_self, Int.reduceEq, Int.reduceLT, Int.reduceLE, Int.reduceNeg, Int.reduceToNat, Int.reduceAdd, Int.reduceSub, Int.reduceMul, Int.reduceNe, and_self, e6]
    exact nx B' q' hE hD' cx' scr' _ _ _ hJ2
  · refine ⟨rfl, Nat.zero_le _, CtG.mono (pr_fault hJ) (fun r τ c' e' hh => ?_)⟩
    obtain ⟨⟨v, rfl⟩, q', g1, g2, g3⟩ := hh
    exact ⟨rfl, v, rfl, q', g1, g2, g3⟩
theorem law_text {B : jB} {cells slots i : Nat} {σ : jM} {q : Nat × Nat} {o5 o6 : Option jV} (h : Cx (LX p l e s m below meth c b B cells slots) "LosersBooksLaw" code 7) (hX : Scr (LX p l e s m below meth c b B cells slots) L xs) (hD : Dinv B.2.1 q.1 q.2) (h1 : cells + 5 ≤ 601024) (h2 : slots + 286 ≤ 7293034) (hi : i + 6 ≤ L) (hL : L ≤ 3072) (hJ : J q σ)
    (nx : ∀ (B' : jB) (q' : Nat × Nat), Ext B B' → Dinv B'.2.1 q'.1 q'.2 → Cx (LX p l e s m below meth c b B' (cells + 5) (slots + 286)) "LosersBooksLaw" code 7 → Scr (LX p l e s m below meth c b B' (cells + 5) (slots + 286)) L xs → Nx (AtX (LX p l e s m below meth c b B' (cells + 5) (slots + 286))) q' i) : AtX (LX p l e s m below meth c b B cells slots) 350 (lsL i o5 o6) [.inl (xs (i + 1)).toInt, rf 9 0] σ := by
  have e1 := wr_i (i := i) (L := L) (j := 1) 1 rfl (by decide) hi hL
  have e6 := wr_i (i := i) (L := L) (j := 6) 6 rfl (by decide) hi hL
  refine r_callG (X := LX p l e s m below meth c b B cells slots) (pc := 350) (d := 60) (mc := 5) (ms := 286) (K := 9) (n := 1) (M := M_LB_text) (a := q.1) (b := q.2) (k := fun a' b' ls st τ => ls = lsL i o5 o6 ∧ ∃ v : Int, st = [.inl v] ∧ ∃ q' : Nat × Nat, a' = q'.1 ∧ b' = q'.2 ∧ Ct 60 M_MO_text [rf 10 0, .inl (xs (i + 1)).toInt] τ (fun y τ' => y = some (.inl v) ∧ J q' τ')) h (LX.rm (by omega) (by omega)) v_LB_text (by decide) (Or.inl k_617) hD (by decide +kernel) ⟨h1, h2⟩ ?_ _ _ _ ?_
  · intro X' a' b' hg hD' ls st τ hw
    obtain ⟨rfl, v, rfl, q', rfl, rfl, hct⟩ := hw
    have cx' := GX.cx hg h
    obtain ⟨B', hE, rfl⟩ := hg
    have scr' : Scr (LX p l e s m below meth c b B' (cells + 5) (slots + 286)) L xs := hX.ext (hE.2.1 92 (by decide)) (by rw [hE.1])
    refine s_LW_law_353 (X := LX p l e s m below meth c b B' (cells + 5) (slots + 286)) cx' (LX.rm (by omega) (by omega)) scr' _ _ _ ?_
    simp only [w_LW_law_353, lsL, c_ic, c_lc, c_nul, c_il, c_ll, c_al, c_is, c_ls, c_as, c_inc, c_b2, c_b2n, c_b1, c_d2, c_d2n, c_dsh, c_i2l, c_l2i, c_lcm, c_dup, c_dup2, c_pop, c_j1, c_j2, c_jn, c_sw0, c_sw, c_gI, c_gL, c_gR, c_gS, c_pI, c_pZ, c_pL, c_pR, c_iald, c_ialg, c_iast, c_iasg, c_bald, c_bast, c_lald, c_last, c_aald, c_aals, c_aast, c_alen, c_bnd, c_str, c_bndl, c_bnln, c_sval, c_scod, c_sbal, c_sbln, c_fmt, c_stop, c_iret, c_zret, c_nret, c_aret, c_vret, c_lret, c_cpy, c_callV, c_callS, tkA, lget, lput, lkill, jpush, vsz, jcat, lins, lent, List.length_cons, List.length_nil, List.replicate, List.append_nil, List.cons_append, List.nil_append, reduceIte, Nat.reduceAdd, Nat.reduceSub, Nat.reduceEqDiff, true_and, and_true, Nat.reduceLeDiff, Nat.lt_irrefl, Nat.succ_ne_self, forall_const, ne_eq, not_true_eq_false, not_false_eq_true, false_implies, implies_true, true_implies, true_or, or_true, or_false, false_or, eq_self, Int.reduceEq, Int.reduceLT, Int.reduceLE, Int.reduceNeg, Int.reduceToNat, Int.reduceAdd, Int.reduceSub, Int.reduceMul, Int.reduceNe, and_self, c_sld, e1, Int.toNat_natCast]
    refine ⟨⟨by omega, by omega⟩, Ct.mono hct (fun y τ2 hh => ?_)⟩
    obtain ⟨rfl, hJ2⟩ := hh
    simp only [w_LW_law_1584, c_ic, c_lc, c_nul, c_il, c_ll, c_al, c_is, c_ls, c_as, c_inc, c_b2, c_b2n, c_b1, c_d2, c_d2n, c_dsh, c_i2l, c_l2i, c_lcm, c_dup, c_dup2, c_pop, c_j1, c_j2, c_jn, c_sw0, c_sw, c_gI, c_gL, c_gR, c_gS, c_pI, c_pZ, c_pL, c_pR, c_iald, c_ialg, c_iast, c_iasg, c_bald, c_bast, c_lald, c_last, c_aald, c_aals, c_aast, c_alen, c_bnd, c_str, c_bndl, c_bnln, c_sval, c_scod, c_sbal, c_sbln, c_fmt, c_stop, c_iret, c_zret, c_nret, c_aret, c_vret, c_lret, c_cpy, c_callV, c_callS, tkA, lget, lput, lkill, jpush, vsz, jcat, lins, lent, List.length_cons, List.length_nil, List.replicate, List.append_nil, List.cons_append, List.nil_append, reduceIte, Nat.reduceAdd, Nat.reduceSub, Nat.reduceEqDiff, true_and, and_true, Nat.reduceLeDiff, Nat.lt_irrefl, Nat.succ_ne_self, forall_const, ne_eq, not_true_eq_false, not_false_eq_true, false_implies, implies_true, true_implies, true_or, or_true, or_false, false_or, eq_self, Int.reduceEq, Int.reduceLT, Int.reduceLE, Int.reduceNeg, Int.reduceToNat, Int.reduceAdd, Int.reduceSub, Int.reduceMul, Int.reduceNe, and_self, e6]
    exact nx B' q' hE hD' cx' scr' _ _ _ hJ2
  · refine ⟨rfl, Nat.zero_le _, CtG.mono (pr_text hJ) (fun r τ c' e' hh => ?_)⟩
    obtain ⟨⟨v, rfl⟩, q', g1, g2, g3⟩ := hh
    exact ⟨rfl, v, rfl, q', g1, g2, g3⟩
theorem law_king {B : jB} {cells slots i : Nat} {σ : jM} {q : Nat × Nat} {o5 o6 : Option jV} (hlt : l.stackTraces = false) (h : Cx (LX p l e s m below meth c b B cells slots) "LosersBooksLaw" code 7) (hX : Scr (LX p l e s m below meth c b B cells slots) L xs) (he : EX B s1 s2 s) (h1 : cells + 5 ≤ 601024) (h2 : slots + 286 ≤ 7293034) (hi : i + 6 ≤ L) (hL : L ≤ 3072) (hJ : J q σ)
    (nx : Nx (AtX (LX p l e s m below meth c b B (cells + 1) (slots + 6))) q i) : AtX (LX p l e s m below meth c b B cells slots) 382 (lsL i o5 o6) [rf 51 0, .inl (xs (i + 2)).toInt, .inl (xs (i + 1)).toInt, rf 9 0] σ := by
  have e1 := wr_i (i := i) (L := L) (j := 1) 1 rfl (by decide) hi hL
  have e2 := wr_i (i := i) (L := L) (j := 2) 2 rfl (by decide) hi hL
  have e6 := wr_i (i := i) (L := L) (j := 6) 6 rfl (by decide) hi hL
  have h' := h
  obtain ⟨hx, hb, hml, hN, hown, hT, hK, hbase, hlocks, hRom, hC⟩ := h
  intro H locs rls hP hS hl hM hs hLs
  generalize ha : (xs (i + 1)).toInt = a at *
  generalize hw : (xs (i + 2)).toInt = w at *
  have o9 : okv B.2.1 (rf 9 0) := hs _ (by simp)
  have o51 : okv B.2.1 (rf 51 0) := hs _ (by simp)
  have oa : okv B.2.1 (.inl a) := hs _ (by simp)
  have ow : okv B.2.1 (.inl w) := hs _ (by simp)
  have mt := pr_kingdom (l := l) (B := B) (s1 := s1) (s2 := s2) (k := a) (w := w) hlt hC hM (oks_cons o9 (oks_cons oa (oks_cons ow (oks_cons o51 oks_nil)))) hJ
  have hpre : PreS s H (PcK B s1 s2 [rf 9 0, .inl a, .inl w, rf 51 0] σ) [.ref (B.1 9 0), .int (Int32.ofInt a), .int (Int32.ofInt w), .ref (B.1 51 0)] := ⟨blindK, fun U hU hW => ⟨⟨rfl, hT.warm hW, va_K.moved hW.alike hK, by rw [hU]; exact Nat.le_trans hbase hS.1, hRom.call hS hW hU, by rw [hU]; exact hP⟩, he.call hS hW hU⟩⟩
  have hlen : ∀ sig, parseMethodDescriptor Mk.desc = some sig → 4 = sig.parameters.length := fun sig hsig => by
    have hds : (parseMethodDescriptor Mk.desc).map (fun d => d.parameters.length) = some 4 := by decide +kernel
    rw [hsig] at hds; exact (Option.some.inj hds).symm
  have hws : ∀ w ∈ [wk], ∀ (a' : Array Value) (U : State), s.WarmedH U.vm → w.before a' U = true := fun w hw a' U hW => by
    rw [List.mem_singleton] at hw
    subst hw
    exact hT.warm hW _ k_1034 rfl _
  have run := vx_runSW (p := p) (l := l) (e := e) (R := room_1) (s := s) (m := m) (args := #[Value.ref b]) (below := below) (meth := meth) (c := c) (H := H) (locs := locs) (cells := cells) (slots := slots) (Ts := []) (nL := 7) (bytes := method_3_code) (maxL := 5) (ret := some .int) (hh := [(0, 10, 13, 13)]) (index := 38) (cc := code) (own := "LosersBooksLaw") (As := [.ref (B.1 9 0), .int (Int32.ofInt a), .int (Int32.ofInt w), .ref (B.1 51 0)]) (rest := []) (g := F0 m 382 rls ([rf 51 0, .inl w, .inl a, rf 9 0].map (vr B.1))) ⟨hx, hb, hml, hown, fun w hw => by cases hw⟩ mt ⟨⟨rfl, rfl, show 60 + 1 ≤ 2048 by decide, show 8 + (5 + 11) + 64 * 60 ≤ 84000 by decide, hws, List.mem_singleton.mpr rfl⟩, hT _ k_1034 rfl _, hT _ k_0 rfl _, ⟨by decide +kernel, by decide +kernel⟩, hlen, hT _ k_1032 rfl _, hT _ k_1033 rfl _⟩ hpre rfl rfl hl.1 rfl (Nat.le_of_ble_eq_true rfl) (show decode code 382 = .ok (.invokestatic 38, 3) by decide +kernel) ⟨show cells + 1 ≤ 601024 by omega, show slots + 6 ≤ 7293034 by omega⟩
  intro T hT' Xs
  obtain ⟨v, st₀, t, T', L', f0, X', hL', e1', e2', ⟨⟨r, τ, hv, ⟨x, rfl, h01, hct⟩, hM', hov, hP'⟩, hz, hkp⟩, stp⟩ := run T hT' Xs
  cases hv
  rw [f0] at hz hkp
  have hS' : va_S (sysA B) s.heap T'.heap (locs ++ L') := ⟨Nat.le_trans hS.1 (by rw [e1']; exact hz), fun q g1 g2 => by rw [e1', hkp q (Nat.lt_of_lt_of_le g1 hS.1) g2]; exact hS.2.1 q g1 g2, fun q hq => by
    rcases List.mem_append.mp hq with g | g
    · exact hS.2.2 q g
    · exact hL' q g⟩
  have cert := s_LW_law_385 (X := LX p l e s m below meth c b B (cells + 1) (slots + 6)) (L := L) (xs := xs) h' (LX.rm (by omega) (by omega)) (hX.ext rfl rfl)
  have body : w_LW_law_385 (AtX (LX p l e s m below meth c b B (cells + 1) (slots + 6))) L xs (lsL i o5 o6) [.inl x] τ := by
    simp only [w_LW_law_385, lsL, c_ic, c_lc, c_nul, c_il, c_ll, c_al, c_is, c_ls, c_as, c_inc, c_b2, c_b2n, c_b1, c_d2, c_d2n, c_dsh, c_i2l, c_l2i, c_lcm, c_dup, c_dup2, c_pop, c_j1, c_j2, c_jn, c_sw0, c_sw, c_gI, c_gL, c_gR, c_gS, c_pI, c_pZ, c_pL, c_pR, c_iald, c_ialg, c_iast, c_iasg, c_bald, c_bast, c_lald, c_last, c_aald, c_aals, c_aast, c_alen, c_bnd, c_str, c_bndl, c_bnln, c_sval, c_scod, c_sbal, c_sbln, c_fmt, c_stop, c_iret, c_zret, c_nret, c_aret, c_vret, c_lret, c_cpy, c_callV, c_callS, tkA, lget, lput, lkill, jpush, vsz, jcat, lins, lent, List.length_cons, List.length_nil, List.replicate, List.append_nil, List.cons_append, List.nil_append, reduceIte, Nat.reduceAdd, Nat.reduceSub, Nat.reduceEqDiff, true_and, and_true, Nat.reduceLeDiff, Nat.lt_irrefl, Nat.succ_ne_self, forall_const, ne_eq, not_true_eq_false, not_false_eq_true, false_implies, implies_true, true_implies, true_or, or_true, or_false, false_or, eq_self, Int.reduceEq, Int.reduceLT, Int.reduceLE, Int.reduceNeg, Int.reduceToNat, Int.reduceAdd, Int.reduceSub, Int.reduceMul, Int.reduceNe, and_self, c_sld, e1, e2, Int.toNat_natCast, ha, hw]
    refine ⟨⟨by omega, by omega⟩, ⟨by omega, by omega⟩, Ct.mono hct (fun y τ1 hh => ?_)⟩
    obtain ⟨bv, rfl, ht⟩ := hh
    simp only [c_ic, c_lc, c_nul, c_il, c_ll, c_al, c_is, c_ls, c_as, c_inc, c_b2, c_b2n, c_b1, c_d2, c_d2n, c_dsh, c_i2l, c_l2i, c_lcm, c_dup, c_dup2, c_pop, c_j1, c_j2, c_jn, c_sw0, c_sw, c_gI, c_gL, c_gR, c_gS, c_pI, c_pZ, c_pL, c_pR, c_iald, c_ialg, c_iast, c_iasg, c_bald, c_bast, c_lald, c_last, c_aald, c_aals, c_aast, c_alen, c_bnd, c_str, c_bndl, c_bnln, c_sval, c_scod, c_sbal, c_sbln, c_fmt, c_stop, c_iret, c_zret, c_nret, c_aret, c_vret, c_lret, c_cpy, c_callV, c_callS, tkA, lget, lput, lkill, jpush, vsz, jcat, lins, lent, List.length_cons, List.length_nil, List.replicate, List.append_nil, List.cons_append, List.nil_append, reduceIte, Nat.reduceAdd, Nat.reduceSub, Nat.reduceEqDiff, true_and, and_true, Nat.reduceLeDiff, Nat.lt_irrefl, Nat.succ_ne_self, forall_const, ne_eq, not_true_eq_false, not_false_eq_true, false_implies, implies_true, true_implies, true_or, or_true, or_false, false_or, eq_self, Int.reduceEq, Int.reduceLT, Int.reduceLE, Int.reduceNeg, Int.reduceToNat, Int.reduceAdd, Int.reduceSub, Int.reduceMul, Int.reduceNe, and_self]
    refine Ct.mono ht (fun y τ2 hh => ?_)
    obtain ⟨rfl, hb, hJ2⟩ := hh
    simp only [c_ic, c_lc, c_nul, c_il, c_ll, c_al, c_is, c_ls, c_as, c_inc, c_b2, c_b2n, c_b1, c_d2, c_d2n, c_dsh, c_i2l, c_l2i, c_lcm, c_dup, c_dup2, c_pop, c_j1, c_j2, c_jn, c_sw0, c_sw, c_gI, c_gL, c_gR, c_gS, c_pI, c_pZ, c_pL, c_pR, c_iald, c_ialg, c_iast, c_iasg, c_bald, c_bast, c_lald, c_last, c_aald, c_aals, c_aast, c_alen, c_bnd, c_str, c_bndl, c_bnln, c_sval, c_scod, c_sbal, c_sbln, c_fmt, c_stop, c_iret, c_zret, c_nret, c_aret, c_vret, c_lret, c_cpy, c_callV, c_callS, tkA, lget, lput, lkill, jpush, vsz, jcat, lins, lent, List.length_cons, List.length_nil, List.replicate, List.append_nil, List.cons_append, List.nil_append, reduceIte, Nat.reduceAdd, Nat.reduceSub, Nat.reduceEqDiff, true_and, and_true, Nat.reduceLeDiff, Nat.lt_irrefl, Nat.succ_ne_self, forall_const, ne_eq, not_true_eq_false, not_false_eq_true, false_implies, implies_true, true_implies, true_or, or_true, or_false, false_or, eq_self, Int.reduceEq, Int.reduceLT, Int.reduceLE, Int.reduceNeg, Int.reduceToNat, Int.reduceAdd, Int.reduceSub, Int.reduceMul, Int.reduceNe, and_self]
    simp only [w_LW_law_416, w_LW_law_433, w_LW_law_1584, c_ic, c_lc, c_nul, c_il, c_ll, c_al, c_is, c_ls, c_as, c_inc, c_b2, c_b2n, c_b1, c_d2, c_d2n, c_dsh, c_i2l, c_l2i, c_lcm, c_dup, c_dup2, c_pop, c_j1, c_j2, c_jn, c_sw0, c_sw, c_gI, c_gL, c_gR, c_gS, c_pI, c_pZ, c_pL, c_pR, c_iald, c_ialg, c_iast, c_iasg, c_bald, c_bast, c_lald, c_last, c_aald, c_aals, c_aast, c_alen, c_bnd, c_str, c_bndl, c_bnln, c_sval, c_scod, c_sbal, c_sbln, c_fmt, c_stop, c_iret, c_zret, c_nret, c_aret, c_vret, c_lret, c_cpy, c_callV, c_callS, tkA, lget, lput, lkill, jpush, vsz, jcat, lins, lent, List.length_cons, List.length_nil, List.replicate, List.append_nil, List.cons_append, List.nil_append, reduceIte, Nat.reduceAdd, Nat.reduceSub, Nat.reduceEqDiff, true_and, and_true, Nat.reduceLeDiff, Nat.lt_irrefl, Nat.succ_ne_self, forall_const, ne_eq, not_true_eq_false, not_false_eq_true, false_implies, implies_true, true_implies, true_or, or_true, or_false, false_or, eq_self, Int.reduceEq, Int.reduceLT, Int.reduceLE, Int.reduceNeg, Int.reduceToNat, Int.reduceAdd, Int.reduceSub, Int.reduceMul, Int.reduceNe, and_self, e6]
    refine ⟨fun _ => nx _ _ _ hJ2, fun z => ?_⟩
    have z0 : x = 0 := by rcases h01 with z1 | z1 <;> omega
    have lc : lcm3 (τ2.2.1 51 0 (0 : Int).toNat) bv = 0 := by
      rw [show (0 : Int).toNat = 0 from rfl, hb z0]
      unfold lcm3
      rw [if_neg (by omega), if_pos rfl]
    refine ⟨by decide, fun _ => nx _ _ _ hJ2, fun z2 => absurd ?_ z2⟩
    first | exact lc | (simpa using lc)
  obtain ⟨t2, a1, b1⟩ := cert _ _ _ body T'.heap (locs ++ L') rls (by rw [e1']; exact hP') hS' hl hM' (oks_cons (hov _ rfl) oks_nil) hLs T' rfl X'
  exact ⟨t2, stp t2 a1, b1⟩
theorem law_loop (hlt : l.stackTraces = false) (hret : meth.sig.returnType = ret) (hL : L ≤ 3072) : ∀ (n i : Nat) (B : jB) (cells slots : Nat) (q : Nat × Nat) (σ : jM) (o5 o6 : Option jV), L ≤ i + 6 * n + 5 → i ≤ L + 6 → Cx (LX p l e s m below meth c b B cells slots) "LosersBooksLaw" code 7 → Scr (LX p l e s m below meth c b B cells slots) L xs → EX B s1 s2 s → Dinv B.2.1 q.1 q.2 → cells + 5 * n ≤ 601024 → slots + 286 * n ≤ 7293034 → J q σ → AtX (LX p l e s m below meth c b B cells slots) 23 (lsL i o5 o6) [] σ := by
  intro n
  induction n with
  | zero =>
    intro i B cells slots q σ o5 o6 hn hi h hX he hD h1 h2 hJ
    refine s_LW_law_23 h (LX.rm (by omega) (by omega)) hX _ _ _ (lc_head hL (by omega) hJ (fun z => absurd z (by omega)) (law_fin hret h hX.2.2.1 (by omega) (by omega)) (fun z => absurd z (by omega)) (fun z => absurd z (by omega)) (fun z => absurd z (by omega)))
  | succ n ih =>
    intro i B cells slots q σ o5 o6 hn hi h hX he hD h1 h2 hJ
    have k1 : cells + 5 ≤ 601024 := Nat.le_trans (Nat.add_le_add_left (show 5 ≤ 5 * (n + 1) by omega) cells) h1
    have k2 : slots + 286 ≤ 7293034 := Nat.le_trans (Nat.add_le_add_left (Nat.le_mul_of_pos_right 286 (Nat.succ_pos n)) slots) h2
    have k3 : cells + 5 + 5 * n ≤ 601024 := by rw [Nat.add_assoc, show 5 + 5 * n = 5 * (n + 1) by omega]; exact h1
    have k4 : slots + 286 + 286 * n ≤ 7293034 := by rw [Nat.add_assoc, show 286 + 286 * n = 286 * (n + 1) from (by rw [Nat.mul_succ, Nat.add_comm])]; exact h2
    refine s_LW_law_23 h (LX.rm (Nat.le_trans (Nat.le_add_right _ _) h1) (Nat.le_trans (Nat.le_add_right _ _) h2)) hX _ _ _ (lc_head hL (by omega) hJ (fun h6 o5 o6 τ hJ' => ?_) (law_fin hret h hX.2.2.1 (Nat.le_trans (Nat.le_add_right _ _) h1) (Nat.le_trans (Nat.le_add_right _ _) h2)) (fun h6 => ?_) (fun h6 => ?_) (fun h6 => ?_))
    · exact ih (i + 6) B cells slots q τ o5 o6 (by omega) (by omega) h hX he hD (Nat.le_trans (Nat.add_le_add_right (Nat.le_add_right cells 5) _) k3) (Nat.le_trans (Nat.add_le_add_right (Nat.le_add_right slots 286) _) k4) hJ'
    · refine law_fault h hX hD (Nat.le_trans (Nat.add_le_add_left (show 1 ≤ 5 by decide) cells) k1) (Nat.le_trans (Nat.add_le_add_left (show 2 ≤ 286 by decide) slots) k2) h6 hL hJ (fun B' q' hE hD' cx' scr' o5 o6 τ hJ' => ?_)
      exact ih (i + 6) B' (cells + 1) (slots + 2) q' τ o5 o6 (by omega) (by omega) cx' scr' (he.ext hE) hD' (Nat.le_trans (Nat.add_le_add_right (Nat.add_le_add_left (show 1 ≤ 5 by decide) cells) _) k3) (Nat.le_trans (Nat.add_le_add_right (Nat.add_le_add_left (show 2 ≤ 286 by decide) slots) _) k4) hJ'
    · refine law_text h hX hD k1 k2 h6 hL hJ (fun B' q' hE hD' cx' scr' o5 o6 τ hJ' => ?_)
      exact ih (i + 6) B' (cells + 5) (slots + 286) q' τ o5 o6 (by omega) (by omega) cx' scr' (he.ext hE) hD' k3 k4 hJ'
    · refine law_king hlt h hX he k1 k2 h6 hL hJ (fun o5 o6 τ hJ' => ?_)
      exact ih (i + 6) B (cells + 1) (slots + 6) q τ o5 o6 (by omega) (by omega) h (hX.ext rfl rfl) he hD (Nat.le_trans (Nat.add_le_add_right (Nat.add_le_add_left (show 1 ≤ 5 by decide) cells) _) k3) (Nat.le_trans (Nat.add_le_add_right (Nat.add_le_add_left (show 6 ≤ 286 by decide) slots) _) k4) hJ'
end LOOP
