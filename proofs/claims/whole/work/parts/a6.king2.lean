/-! ===== a6 kingdom: the pair ===== -/
theorem ok_LWk {l : Launch} {B : jB} {σ : jM} {Φ : jPh} {K F r s1 s2 : Nat} {k w : Int} (hlt : l.stackTraces = false) (hC : clo B) (hM : okM B.2.1 σ) (ho : oks B.2.1 [rf 9 0, .inl k, .inl w, rf 51 0]) (hR : JR σ K F r) (hJW : JW σ K F) (h0 : kok K k w → Φ (some (.inl 0)) (sL σ 51 0 0 (kv (σ.1 69 0) k.toNat w.toNat))) (h1 : ¬ kok K k w → Φ (some (.inl 1)) σ) : Met l Mk [wk] (rmc 60 1 6) (PcK B s1 s2 [rf 9 0, .inl k, .inl w, rf 51 0] σ) (QcX B Φ) 1 6 (sysA B) := by
  refine CtH.intro (d := 59) (Nat.le_add_right 4 1) hlt hC hM ho (fun X h hRm hr => ?_)
  have key : Sn X 5 (fun ls st τ => ls = [some (rf 9 0), some (.inl k), some (.inl w), some (rf 51 0), none] ∧ st = [.inl w, .inl k, rf 9 0, .inl 0, rf 51 0] ∧ τ = σ) := by
    have h' := h
    obtain ⟨p, l', e, R, s, m, args, below, meth, c, Q, cells, slots, B', nL⟩ := X
    obtain ⟨hx, hb, hml, hN, hown, hT, hK, hbase, hlocks, hRom, hCB⟩ := h
    obtain ⟨hR1, hR2, -⟩ := hRm
    obtain ⟨hret, rfl, rfl, rfl, ⟨r1, r2⟩, htab, hlt', he⟩ := hr
    obtain ⟨w1, w2, w3, w4, hmh, hds, hmx⟩ := v_LB_kingdom
    intro ls st τ hw H locs rls hP hS hl hMx hs hL
    obtain ⟨rfl, rfl, hτ⟩ := hw
    subst hτ
    have o9 : okv B'.2.1 (rf 9 0) := hs _ (by simp)
    have ok' : okv B'.2.1 (.inl k) := hs _ (by simp)
    have ow : okv B'.2.1 (.inl w) := hs _ (by simp)
    have ck := ck_LB (s1 := s1) (s2 := s2) hlt' hCB hMx (oks_cons o9 (oks_cons ok' (oks_cons ow oks_nil))) hR hJW
    have hj := okr_in o9 (by decide)
    have hrecv : ∃ cellB : Cell, H[B'.1 9 0]? = some cellB ∧ cellB.vm.isStatics = false ∧ s.vm.findClass (jR 9) = some cellB.cls := by
      obtain ⟨q0, hq, -⟩ := wld_at (σ := τ) hj
      rw [cel_o (by decide)] at hq
      exact va_recv hK hP.1 (jcl_at 9 (by decide)) hq
    have hpre : PreV s H (jR 9) (B'.1 9 0) (PcK B' s1 s2 [rf 9 0, .inl k, .inl w] τ) [.int (Int32.ofInt k), .int (Int32.ofInt w)] := ⟨blindK, hrecv, fun U hU hW => ⟨⟨rfl, hT.warm hW, va_K.moved hW.alike hK, by rw [hU]; exact Nat.le_trans hbase hS.1, hRom.call hS hW hU, by rw [hU]; exact hP⟩, he.call hS hW hU⟩⟩
    have hlen : ∀ sig, parseMethodDescriptor M_LB_kingdom.1.desc = some sig → 2 = sig.parameters.length := fun sig hsig => by rw [hsig] at hds; exact (Option.some.inj hds).symm
    have hws : ∀ w ∈ [Cond.code M_LB_kingdom.1 M_LB_kingdom.2.1 M_LB_kingdom.2.2.1 M_LB_kingdom.2.2.2], ∀ (a' : Array Value) (U : State), s.WarmedH U.vm → w.before a' U = true := fun w hw a' U hW => by
      rw [List.mem_singleton] at hw
      subst hw
      exact hT.warm hW _ w1 rfl _
    have hfr : (rmc 59 1 6).frames + 1 ≤ R.frames := hR1
    have hlo : 8 + (M_LB_kingdom.2.2.1 + 11) + (rmc 59 1 6).locals ≤ R.locals := by show 8 + (3 + 11) + 64 * 59 ≤ R.locals; omega
    have run := vx_runV (Ts := []) (nL := nL) (As := [.int (Int32.ofInt k), .int (Int32.ofInt w)]) (rest := [.int (Int32.ofInt 0), .ref (B'.1 51 0)]) (g := F0 m 5 rls ([.inl w, .inl k, rf 9 0, .inl 0, rf 51 0].map (vr B'.1))) (args := args) (e := e) (below := below) (meth := meth) (locs := locs) (cells := 0) (slots := 0) (cc := method_3_code) ⟨hx, hb, hml, hown, fun w hw => by cases hw⟩ ck ⟨⟨rfl, rfl, hfr, hlo, hws, List.mem_singleton.mpr rfl, hT _ w1 rfl _, hT _ w4 rfl _, hmh, hlen, hT _ k_1036 rfl _⟩, hT _ w2 rfl _, hT _ w3 rfl _⟩ hpre rfl rfl hl.1 rfl (Nat.le_of_ble_eq_true rfl) (show decode method_3_code 5 = .ok (.invokevirtual 7, 3) by decide +kernel) ⟨r1, r2⟩
    intro T hT' Xs
    rcases run T hT' Xs with ⟨v, st₀, t, T', L, f0, X', hL', e1, e2, ⟨⟨r, τ', hv, ⟨rfl, hok, rfl⟩, hM', hov, hP'⟩, hz, hkp⟩, stp⟩ | ⟨q, st₀, t, T', L, E, ce, f0, X', hL', e1, e2, ⟨rfl, ⟨τ', ⟨rfl, hbad⟩, hM', hP'⟩, hz, hkp⟩, hce, hcv, hcl, stp⟩
    · cases hv
      rw [f0] at hz hkp
      have hS' : va_S (sysA B') s.heap T'.heap (locs ++ L) := ⟨Nat.le_trans hS.1 (by rw [e1]; exact hz), fun q g1 g2 => by rw [e1, hkp q (Nat.lt_of_lt_of_le g1 hS.1) g2]; exact hS.2.1 q g1 g2, fun q hq => by
        rcases List.mem_append.mp hq with g | g
        · exact hS.2.2 q g
        · exact hL' q g⟩
      have hc : Cx (p, l', e, R, s, m, args, below, meth, c, MQ below (QcX B' Φ) args s 1 6 (sysA B'), 1, 6, B', nL) "LosersBooksLaw" method_3_code 5 := h'
      have hrt : Rt (p, l', e, R, s, m, args, below, meth, c, MQ below (QcX B' Φ) args s 1 6 (sysA B'), 1, 6, B', nL) (some .int) Φ := ⟨hret, rfl⟩
      have cert := r_i2l (pc := 8) hc (by decide +kernel) (r_last (pc := 9) (K := 51) (n := 1) hc (by decide) (by decide) rfl rfl (fun _ => rfl) (by decide +kernel) (m_goto (r_goto (pc := 10) (off := 7) (tgt := 17) hc (by decide +kernel) (by decide)) (r_ic (pc := 17) (n := 0) hc (by decide +kernel) ⟨by decide, by decide⟩ (r_iret (pc := 18) (Φ := Φ) hc hrt (by decide +kernel)))))
      obtain ⟨t2, a1, b1⟩ := cert [some (rf 9 0), some (.inl k), some (.inl w), some (rf 51 0), none] [.inl (kv (τ'.1 69 0) k.toNat w.toNat), .inl 0, rf 51 0] τ' ⟨rfl, ⟨by decide, by decide⟩, h0 hok⟩ T'.heap (locs ++ L) rls (by rw [e1]; exact hP') hS' hl hM' (oks_cons (hov _ rfl) (oks_tl (oks_tl (oks_tl hs)))) hL T' rfl X'
      exact ⟨t2, stp t2 a1, b1⟩
    · rw [f0] at hz hkp
      have hS' : va_S (sysA B') s.heap T'.heap (locs ++ L) := ⟨Nat.le_trans hS.1 (by rw [e1]; exact hz), fun q g1 g2 => by rw [e1, hkp q (Nat.lt_of_lt_of_le g1 hS.1) g2]; exact hS.2.1 q g1 g2, fun q hq => by
        rcases List.mem_append.mp hq with g | g
        · exact hS.2.2 q g
        · exact hL' q g⟩
      have hW := vx_catch (p := p) (l := l') (e := e) (R := R) (s := s) (m := m) (args := args) (below := below) (meth := meth) (c := c) (H := T'.heap) (locs := locs ++ L) (cells := 1) (slots := 6) (Q := MQ below (QcX B' Φ) args s 1 6 (sysA B')) (pc := 5) (ls := rls) (rest := [.int (Int32.ofInt 0), .ref (B'.1 51 0)]) (own := "LosersBooksLaw") (name := NSE) (E := NSE) (ce := ce) (q := q) hown [] ⟨0, 10, 13, 13⟩ [] htab (fun z hz => by cases hz) (by decide) (by decide) (hT _ k_1035 rfl _) (he.2.2.2.2 _ (by simp [exW]) _) (by rw [e1]; exact hce) hcv hcl
        (lv_astore hx hb (i := 4) (by decide +kernel) hl (by rw [hN]; decide) rfl (fun rls' hl' => lv_iconst hx hb (n := 1) (by decide +kernel) rfl (W.iret hx hb hret (fun t' ht' _ => ⟨⟨some (.inl 1), τ', rfl, h1 hbad, hM', fun v hv => by cases hv; exact ⟨by decide, by decide⟩, by rw [ht', e1]; exact hP'⟩, hS'.F ht'⟩) hS'.2.2 (by decide +kernel))))
      obtain ⟨t2, a1, b1⟩ := hW T' rfl X'
      exact ⟨t2, stp.trans a1, b1⟩
  exact (r_al0 (pc := 0) (n := 3) h (by decide +kernel) rfl (r_ic (pc := 1) h (by decide +kernel) ⟨by decide, by decide⟩ (r_al0 (pc := 2) (n := 0) h (by decide +kernel) rfl (r_il0 (pc := 3) (n := 1) h (by decide +kernel) rfl (r_il0 (pc := 4) (n := 2) h (by decide +kernel) rfl key))))) _ _ _ ⟨rfl, rfl, rfl⟩
theorem sL_at {σ : jM} {k j o : Nat} {v : Int} : (sL σ k j o v).2.1 k j o = v := if_pos ⟨rfl, rfl, rfl⟩
theorem sLc_fr {σ : jM} {v : Int} : Fr Sc σ (sL σ 51 0 0 v) := fun k j o hn => by
  have e : ¬ (k = 51 ∧ j = 0 ∧ o = 0) := fun e => hn (by unfold Sc; omega)
  exact ⟨rfl, if_neg e, rfl⟩
theorem pr_kingdom {l : Launch} {B : jB} {σ : jM} {q : Nat × Nat} {s1 s2 : Nat} {k w : Int} (hlt : l.stackTraces = false) (hC : clo B) (hM : okM B.2.1 σ) (ho : oks B.2.1 [rf 9 0, .inl k, .inl w, rf 51 0]) (hJ : J q σ) : Met l Mk [wk] (rmc 60 1 6) (PcK B s1 s2 [rf 9 0, .inl k, .inl w, rf 51 0] σ) (QcX B (fun x τ => ∃ v : Int, x = some (.inl v) ∧ (v = 0 ∨ v = 1) ∧ Ct 60 M_MO_kingdom [rf 10 0, .inl k, .inl w] τ (fun y τ' => ∃ b : Int, y = some (.inl b) ∧ Ct 60 M_MO_thrown [rf 10 0] τ' (fun z τ2 => z = some (.inl v) ∧ (v = 0 → τ2.2.1 51 0 0 = b) ∧ J q τ2)))) 1 6 (sysA B) := by
  obtain ⟨n, T, K, F, r, N, P, CL, PL, U, nt, rfl, hT, hR, hW, hA, hI, hK, hMI, hP, hN, hG⟩ := id hJ
  have K4 := hR.2.2.2.2.2.2.2.1
  have c26 := hR.2.2.2.2.2.1
  have c19 := hW.2.1.2.2.2.2.2.1
  have c16 := hW.2.1.2.2.1
  have p16 : (2 : Int) ^ K ≤ 16 := by
    have : K = 0 ∨ K = 1 ∨ K = 2 ∨ K = 3 ∨ K = 4 := by omega
    rcases this with e | e | e | e | e <;> rw [e] <;> decide
  refine ok_LWk hlt hC hM ho hR hW (fun hok => ⟨0, rfl, Or.inl rfl, ?_⟩) (fun hbad => ⟨1, rfl, Or.inr rfl, ?_⟩)
  · refine mo_kingdom (d := 57) (K := K) c26 K4 c19 ⟨c16.1, by show σ.1 69 0 16 < 2147483648; omega⟩ (fun _ => ⟨_, rfl, ?_⟩) (fun z => absurd hok z)
    refine mo_thrown (d := 59) ⟨rfl, fun _ => ?_, (hJ.sc sLc_fr).sc th_sc⟩
    exact sL_at
  · refine mo_kingdom (d := 57) (K := K) c26 K4 c19 ⟨c16.1, by show σ.1 69 0 16 < 2147483648; omega⟩ (fun z => absurd z hbad) (fun _ => ⟨_, rfl, ?_⟩)
    exact mo_thrown (d := 59) ⟨rfl, fun z => absurd z (by decide), hJ.sc th_sc⟩
