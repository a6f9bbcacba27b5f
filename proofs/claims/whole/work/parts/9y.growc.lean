/-! ===== 9y growing contracts ===== -/
/-- which laws and campaigns are there, when so many are kept; no reader is (it is made, used and forgotten) -/
def Dinv (D : List (Nat × Nat)) (a b : Int) : Prop := ∀ k j, (k, j) ∈ D → ((k = 3 ∨ (23 ≤ k ∧ k ≤ 25)) → (j : Int) ≤ a) ∧ ((k = 1 ∨ k = 21 ∨ k = 22) → (j : Int) ≤ b) ∧ k ≠ 4
/-- more is there -/
def Ext (B B' : jB) : Prop := B'.2.2 = B.2.2 ∧ (∀ k, 90 ≤ k → B'.1 k = B.1 k) ∧ (∀ k i, okr B.2.1 k i → B'.1 k i = B.1 k i) ∧ (∀ q ∈ B.2.1, q ∈ B'.2.1) ∧ clo B'
theorem Ext.rf {B : jB} (h : clo B) : Ext B B := ⟨rfl, fun _ _ => rfl, fun _ _ _ => rfl, fun _ h => h, h⟩
theorem Ext.tr {B B' B2 : jB} (h : Ext B B') (h2 : Ext B' B2) : Ext B B2 := by
  obtain ⟨a1, a2, a3, a4, a5⟩ := h
  obtain ⟨b1, b2, b3, b4, b5⟩ := h2
  exact ⟨b1.trans a1, fun k hk => (b2 k hk).trans (a2 k hk), fun k i q => (b3 k i (okr_mono a4 q)).trans (a3 k i q), fun q hq => b4 q (a4 q hq), b5⟩
theorem Ext.sys {B B' : jB} (h : Ext B B') : sysA B' = sysA B := by
  unfold sysA
  rw [h.1]
theorem vr_ext {B B' : jB} {v : jV} (h : Ext B B') (hv : okv B.2.1 v) : vr B'.1 v = vr B.1 v := by
  rcases v with x | x | ⟨k, _ | j⟩
  · rfl
  · rfl
  · rfl
  · show Value.ref (B'.1 k j) = Value.ref (B.1 k j)
    rw [h.2.2.1 k j hv]
theorem okv_mono {D D' : List (Nat × Nat)} (h : ∀ q ∈ D, q ∈ D') {v : jV} (hv : okv D v) : okv D' v := by
  rcases v with x | x | ⟨k, _ | j⟩
  · exact hv
  · exact hv
  · exact hv
  · exact okr_mono h hv
theorem oks_mono {D D' : List (Nat × Nat)} (h : ∀ q ∈ D, q ∈ D') {st : List jV} (hs : oks D st) : oks D' st := fun v hv => okv_mono h (hs v hv)
theorem okl_mono {D D' : List (Nat × Nat)} (h : ∀ q ∈ D, q ∈ D') {ls : jL} (hs : okl D ls) : okl D' ls := fun o ho v hv => okv_mono h (hs o ho v hv)
theorem st_ext {B B' : jB} {st : List jV} (h : Ext B B') (hs : oks B.2.1 st) : st.map (vr B'.1) = st.map (vr B.1) := List.map_congr_left (fun v hv => vr_ext h (hs v hv))
theorem lmp_ext {B B' : jB} (h : Ext B B') : ∀ (ls : jL) (i : Nat), okl B.2.1 ls → lmp B'.1 i ls = lmp B.1 i ls
  | [], _, _ => rfl
  | none :: t, i, hl => lmp_ext h t (i + 1) (fun o ho => hl o (List.mem_cons_of_mem _ ho))
  | some v :: t, i, hl => by
    show (i, vr B'.1 v) :: lmp B'.1 (i + 1) t = (i, vr B.1 v) :: lmp B.1 (i + 1) t
    rw [vr_ext h (hl _ List.mem_cons_self v rfl), lmp_ext h t (i + 1) (fun o ho => hl o (List.mem_cons_of_mem _ ho))]
/-- the same body, with more things there -/
def GX (X X' : jX) (u v : Nat) : Prop := match X with
  | (p, l, e, R, s, m, args, below, meth, c, Q, cells, slots, B, nL) => ∃ B', Ext B B' ∧ X' = (p, l, e, R, s, m, args, below, meth, c, Q, cells + u, slots + v, B', nL)
theorem GX.cx {X X' : jX} {u v : Nat} {own : String} {cc : ByteArray} {N : Nat} (hg : GX X X' u v) (h : Cx X own cc N) : Cx X' own cc N := by
  obtain ⟨p, l, e, R, s, m, args, below, meth, c, Q, cells, slots, B, nL⟩ := X
  obtain ⟨B', hE, rfl⟩ := hg
  obtain ⟨hx, hb, hml, hN, hown, hT, hK, hbase, hlocks, hRm, hC⟩ := h
  obtain ⟨e1, e2, e3, e4, e5⟩ := id hE
  refine ⟨hx, hb, hml, hN, hown, hT, ?_, ?_, hlocks, hRm.re (e2 90 (by decide)) (e2 91 (by decide)) (e2 93 (by decide)) (e2 94 (by decide)) (by rw [e1]; exact Nat.le_refl _), e5⟩
  · unfold jtys
    rw [e1]
    exact hK
  · rw [e1]
    exact hbase
def Rmx (X : jX) (u v : Nat) : Prop := match X with
  | (_, _, _, R, _, _, _, _, _, _, _, cells, slots, _, _) => cells + u ≤ R.cells ∧ slots + v ≤ R.slots
theorem GX.rm {X X' : jX} {u v d : Nat} (hg : GX X X' u v) (h : Rm X d) (hr : Rmx X u v) : Rm X' d := by
  obtain ⟨p, l, e, R, s, m, args, below, meth, c, Q, cells, slots, B, nL⟩ := X
  obtain ⟨B', hE, rfl⟩ := hg
  exact ⟨h.1, h.2.1, hr.1, hr.2⟩
abbrev jPg : Type := Option jV → jM → Int → Int → Prop
def QcG (B : jB) (Φ : jPg) : Array Value → State → Outcome → State → Prop := fun _ st oc t => (∃ (r : Option jV) (τ : jM) (B' : jB) (a b : Int), oc = .returned (r.map (vr B'.1)) ∧ Φ r τ a b ∧ okM B'.2.1 τ ∧ (∀ v, r = some v → okv B'.2.1 v) ∧ Ext B B' ∧ Dinv B'.2.1 a b ∧ Rp B' τ t.heap) ∧ va_F (sysA B) st t
/-- a contract of a method that may make things -/
def CtG (d mc ms : Nat) (M : jMT) (as : List jV) (σ : jM) (a b : Int) (Φ : jPg) : Prop := ∀ (l : Launch) (B : jB), clo B → okM B.2.1 σ → oks B.2.1 as → Dinv B.2.1 a b → Met l M.1 [.code M.1 M.2.1 M.2.2.1 M.2.2.2] (rmc d mc ms) (PcX B as σ) (QcG B Φ) mc ms (sysA B)
def RtG (X : jX) (rt : Option FieldType) (Φ : jPg) (u v : Nat) : Prop := match X with
  | (_, _, _, R, s, _, args, below, meth, _, Q, cells, slots, B, _) => meth.sig.returnType = rt ∧ ∃ (B0 : jB) (mc ms : Nat), Q = MQ below (QcG B0 Φ) args s mc ms (sysA B0) ∧ Ext B0 B ∧ cells + u ≤ mc ∧ slots + v ≤ ms ∧ mc ≤ R.cells ∧ ms ≤ R.slots
theorem GX.rt {X X' : jX} {rt : Option FieldType} {Φ : jPg} {u v u' v' : Nat} (hg : GX X X' u v) (h : RtG X rt Φ (u + u') (v + v')) : RtG X' rt Φ u' v' := by
  obtain ⟨p, l, e, R, s, m, args, below, meth, c, Q, cells, slots, B, nL⟩ := X
  obtain ⟨B', hE, rfl⟩ := hg
  obtain ⟨h1, B0, mc, ms, h2, h3, h4, h5, h6, h7⟩ := h
  exact ⟨h1, B0, mc, ms, h2, h3.tr hE, by omega, by omega, h6, h7⟩
theorem RtG.le {X : jX} {rt : Option FieldType} {Φ : jPg} {u v u' v' : Nat} (h : RtG X rt Φ u v) (h1 : u' ≤ u) (h2 : v' ≤ v) : RtG X rt Φ u' v' := by
  obtain ⟨p, l, e, R, s, m, args, below, meth, c, Q, cells, slots, B, nL⟩ := X
  obtain ⟨g1, B0, mc, ms, g2, g3, g4, g5, g6, g7⟩ := h
  exact ⟨g1, B0, mc, ms, g2, g3, by omega, by omega, g6, g7⟩
theorem RtG.rmx {X : jX} {rt : Option FieldType} {Φ : jPg} {u v u' v' : Nat} (ht : RtG X rt Φ (u + u') (v + v')) : Rmx X u v := by
  obtain ⟨p, l, e, R, s, m, args, below, meth, c, Q, cells, slots, B, nL⟩ := X
  obtain ⟨g1, B0, mc, ms, g2, g3, g4, g5, g6, g7⟩ := ht
  exact ⟨by omega, by omega⟩
theorem GX.rm2 {X X' : jX} {rt : Option FieldType} {Φ : jPg} {u v u' v' d : Nat} (hg : GX X X' u v) (h : Rm X d) (ht : RtG X rt Φ (u + u') (v + v')) : Rm X' d := hg.rm h ht.rmx
def c_iretG (a b : Int) (Φ : jPg) : jWp := fun _ st σ => match st with
  | [.inl x] => Φ (some (.inl x)) σ a b
  | _ => False
def c_callG (d mc ms : Nat) (M : jMT) (K n : Nat) (a b : Int) (k : Int → Int → jWp) : jWp := fun ls st σ => tkA (n + 1) [] st (fun as rest => match as with
  | .inr (.inr (k', some j)) :: As => k' = K ∧ vsz rest ≤ 8 ∧ CtG d mc ms M (.inr (.inr (K, some j)) :: As) σ a b (fun r τ a' b' => k a' b' ls (jpush r rest) τ)
  | _ => False)
/-- the memory with new things in it -/
def blk (σ : jM) (D : List (Nat × Nat)) : jM := (fun k j o => if (k, j) ∈ D then bl k o else σ.1 k j o, fun k j o => if (k, j) ∈ D then 0 else σ.2.1 k j o, fun k j o => if (k, j) ∈ D then br k o else σ.2.2 k j o)
def c_make (K j : Nat) (D : List (Nat × Nat)) (k : jWp) : jWp := fun ls st σ => vsz st ≤ 7 ∧ k ls (.inr (.inr (K, some j)) :: st) (blk σ D)
section R10
variable {X : jX} {own : String} {cc : ByteArray} {N pc ix d K n mc ms : Nat} {M : jMT} {a b : Int}
theorem r_iretG {Φ : jPg} {u v : Nat} (h : Cx X own cc N) (hr : RtG X (some .int) Φ u v) (hD : Dinv (xB X).2.1 a b) (hd : decode cc pc = .ok (.ireturn, 1)) : Sn X pc (c_iretG a b Φ) := by
  obtain ⟨p, l, e, R, s, m, args, below, meth, c, Q, cells, slots, B, nL⟩ := X
  obtain ⟨hx, hb, -, -, -, -, -, -, hlocks, -, hC⟩ := h
  obtain ⟨hr, B0, mc, ms, rfl, hE, h1, h2, -⟩ := hr
  intro ls st σ hw H locs rls hP hS hl hM hs hL
  rcases st with _ | ⟨x | x | x, _ | ⟨y, st⟩⟩ <;> first | exact hw.elim | skip
  refine W.widen (k := mc) (n := ms) (by omega) (by omega) ?_
  refine W.iret hx hb hr (fun t ht _ => ⟨⟨some (.inl x), σ, B, a, b, rfl, hw, hM, okv_some (oks_hd hs), hE, hD, by rw [ht]; exact hP⟩, by rw [← hE.sys]; exact hS.F ht⟩) (by rw [← hE.sys]; exact hS.2.2) hd
theorem r_callG {k : Int → Int → jWp} (h : Cx X own cc N) (hR : Rm X d) (hm : MV M K n) (hK11 : K < 11) (hlk : mlk own ix M) (hD : Dinv (xB X).2.1 a b) (hd : decode cc pc = .ok (.invokevirtual ix, 3)) (hr : Rmx X mc ms) (hk : ∀ X' a' b', GX X X' mc ms → Dinv (xB X').2.1 a' b' → Sn X' (pc + 3) (k a' b')) : Sn X pc (c_callG d mc ms M K n a b k) := by
  obtain ⟨p, l, e, R, s, m, args, below, meth, c, Q, cells, slots, B, nL⟩ := X
  obtain ⟨hx, hb, hml, hN, hown, hT, hK, hbase, hlocks, hRm, hC⟩ := h
  obtain ⟨hR3, hR4⟩ := hr
  obtain ⟨hR1, hR2, -⟩ := hR
  obtain ⟨w1, w2, w3, w4, hmh, hds, hmx⟩ := hm
  intro ls st σ hw H locs rls hP hS hl hM hs hL
  obtain ⟨as, rest, has, rfl, hw2⟩ := tkA_spec (n + 1) [] st hw
  clear hw
  rw [List.append_nil] at hw2
  rcases as with _ | ⟨x | x | ⟨k', _ | j⟩, As⟩ <;> first | exact hw2.elim | skip
  obtain ⟨rfl, hv8, hw⟩ := hw2
  have hAs : As.length = n := by simpa using has
  obtain ⟨ho1, ho2⟩ := oks_app hs
  have ho1 := oks_rev ho1
  have hj := okr_in (oks_hd ho1) (Nat.lt_trans hK11 (by decide))
  have hM1 := hw l B hC hM ho1 hD
  have hrecv : ∃ cellB : Cell, H[B.1 k' j]? = some cellB ∧ cellB.vm.isStatics = false ∧ s.vm.findClass (jR k') = some cellB.cls := by
    obtain ⟨q0, hq, -⟩ := wld_at (σ := σ) hj
    rw [cel_o hK11] at hq
    exact va_recv hK hP.1 (jcl_at k' hK11) hq
  have hpre : PreV s H (jR k') (B.1 k' j) (PcX B (.inr (.inr (k', some j)) :: As) σ) (As.map (vr B.1)) := ⟨blindX, hrecv, fun U hU hW => ⟨rfl, hT.warm hW, va_K.moved hW.alike hK, by rw [hU]; exact Nat.le_trans hbase hS.1, hRm.call hS hW hU, by rw [hU]; exact hP⟩⟩
  have hlen : ∀ sig, parseMethodDescriptor M.1.desc = some sig → n = sig.parameters.length := fun sig hsig => by rw [hsig] at hds; exact (Option.some.inj hds).symm
  have hws : ∀ w ∈ [Cond.code M.1 M.2.1 M.2.2.1 M.2.2.2], ∀ (a' : Array Value) (U : State), s.WarmedH U.vm → w.before a' U = true := fun w hw a' U hW => by
    rw [List.mem_singleton] at hw
    subst hw
    exact hT.warm hW _ w1 rfl _
  have hstk : (F0 m pc rls (((Sum.inr (Sum.inr (k', some j)) :: As).reverse ++ rest).map (vr B.1))).stack = (As.map (vr B.1)).reverse ++ .ref (B.1 k' j) :: rest.map (vr B.1) := by simp [vr]
  have h8 : 2 * (F0 m pc rls (((Sum.inr (Sum.inr (k', some j)) :: As).reverse ++ rest).map (vr B.1))).monitorRoom + ((rest.map (vr B.1)).map fun v => v.category).sum ≤ 8 := by rw [vsz_sum]; show 2 * 0 + _ ≤ 8; omega
  have hfr : (rmc d mc ms).frames + 1 ≤ R.frames := hR1
  have hlo : 8 + (M.2.2.1 + 11) + (rmc d mc ms).locals ≤ R.locals := by show 8 + (M.2.2.1 + 11) + 64 * d ≤ R.locals; omega
  have run : va_Run p l e R s m args below meth c H locs cells slots mc ms (F0 m pc rls (((Sum.inr (Sum.inr (k', some j)) :: As).reverse ++ rest).map (vr B.1))) (rest.map (vr B.1)) (QcG B (fun r τ a' b' => k a' b' ls (jpush r rest) τ) (Value.ref (B.1 k' j) :: As.map (vr B.1)).toArray) (sysA B) := by
    rcases hlk with hlk | ⟨host, hlk⟩
    · exact va_runV (Ts := []) (nL := nL) ⟨hx, hb, hml, hown, fun w hw => by cases hw⟩ hM1 ⟨⟨rfl, rfl, hfr, hlo, hws, List.mem_singleton.mpr rfl, hT _ w1 rfl _, hT _ w4 rfl _, hmh, hlen, hT _ hlk rfl _⟩, hT _ w2 rfl _, hT _ w3 rfl _⟩ hpre rfl (by simpa using hAs) hl.1 hstk h8 hd ⟨hR3, hR4⟩
    · exact va_runVN (Ts := []) (nL := nL) ⟨hx, hb, hml, hown, fun w hw => by cases hw⟩ hM1 ⟨⟨⟨rfl, rfl, hfr, hlo, hws, List.mem_singleton.mpr rfl⟩, hT _ w1 rfl _, hT _ w4 rfl _, hmh, hlen, hT _ hlk rfl _⟩, hT _ w2 rfl _, hT _ w3 rfl _⟩ hpre rfl (by simpa using hAs) hl.1 hstk h8 hd ⟨hR3, hR4⟩
  intro T hT' Xs
  obtain ⟨v, st₀, t, T', L, f0, X', hL', e1, e2, ⟨⟨r, τ, B', a', b', hv, hp, hM', hov, hE, hD', hP'⟩, hz, hkp⟩, stp⟩ := run T hT' Xs
  cases hv
  rw [f0] at hz hkp
  have kk := hk (p, l, e, R, s, m, args, below, meth, c, Q, cells + mc, slots + ms, B', nL) a' b' ⟨B', hE, rfl⟩ hD' ls _ τ hp T'.heap (locs ++ L) rls (by rw [e1]; exact hP') (by
    rw [hE.sys]
    exact ⟨Nat.le_trans hS.1 (by rw [e1]; exact hz), fun q g1 g2 => by rw [e1, hkp q (Nat.lt_of_lt_of_le g1 hS.1) g2]; exact hS.2.1 q g1 g2, fun q hq => by
      rcases List.mem_append.mp hq with g | g
      · exact hS.2.2 q g
      · exact hL' q g⟩) (by rw [lmp_ext hE ls 0 hL]; exact hl) hM' (oks_push hov (oks_mono hE.2.2.2.1 ho2)) (okl_mono hE.2.2.2.1 hL)
  have est : (jpush r rest).map (vr B'.1) = (r.map (vr B'.1)).toList ++ rest.map (vr B.1) := by
    have := st_ext hE ho2
    cases r with
    | none => exact this
    | some v => show vr B'.1 v :: rest.map (vr B'.1) = vr B'.1 v :: rest.map (vr B.1); rw [this]
  rw [est] at kk
  obtain ⟨t2, a1, b1⟩ := kk T' rfl X'
  exact ⟨t2, stp t2 a1, b1⟩
theorem r_make {k : jWp} {j ixn ixi : Nat} {fs : List Value} {D : List (Nat × Nat)} (h : Cx X own cc N) (hR : Rm X d) (hk : K < 11) (h1 : Cond.classLink own ixn (jR K) ∈ lw_tbl) (h2 : Cond.instantiable (jR K) (jn K) ∈ lw_tbl) (h3 : Cond.initialized (jR K) ∈ lw_tbl) (hfs : ∀ j, j < jn K → defaultValue (jY K j) = vp_V fs j) (hv : VI M 0) (hlk : mlk own ixi M)
    (hcn : ∀ (l : Launch) (B : jB) (ws : va_W) (h0 : Nat), Met l M.1 [.code M.1 M.2.1 M.2.2.1 M.2.2.2] (rmc d mc ms) (PcN B (ws ++ [(h0, .inr (K, fs))]) [.ref h0]) (QcN B (Nw B ws D K j h0)) mc ms (sysA B))
    (d1 : decode cc pc = .ok (.new ixn, 3)) (d2 : decode cc (pc + 3) = .ok (.dup, 1)) (d3 : decode cc (pc + 4) = .ok (.invokespecial ixi, 3))
    (hf : ∀ q ∈ (xB X).2.1, q ∉ D) (hKj : (K, j) ∈ D) (h90 : ∀ q ∈ D, q.1 < 90) (h8n : ∀ i, (8, i) ∉ D) (hci : ∀ k i, (k, i) ∈ D → cin D k i) (hbr : ∀ k i, (k, i) ∈ D → ∀ o, br k o = none)
    (hr : Rmx X (1 + mc) (jn K + ms)) (hk' : ∀ X', GX X X' (1 + mc) (jn K + ms) → (xB X').2.1 = (xB X).2.1 ++ D → Sn X' (pc + 7) k) : Sn X pc (c_make K j D k) := by
  obtain ⟨p, l, e, R, s, m, args, below, meth, c, Q, cells, slots, B, nL⟩ := X
  intro ls st σ hw H locs rls hP hS hl hM hs hL
  obtain ⟨h7, hw⟩ := hw
  have hC : clo B := h.2.2.2.2.2.2.2.2.2.2
  obtain ⟨hR3, hR4⟩ := hr
  have key : AtW (p, l, e, R, s, m, args, below, meth, c, Q, cells, slots, B, nL) pc cells slots (lmp B.1 0 ls) (st.map (vr B.1)) (wld B σ) := by
    refine b_make (al := B.1) h hR hk h1 h2 h3 hfs hv hlk (fun _ _ => rfl) hcn d1 d2 d3 (by rw [vsz_sum]; exact h7) ⟨by omega, by omega⟩ (fun al' g => ?_)
    intro H1 locs1 rls1 hP1 hD1 hS1 hl1
    have hE : Ext B (al', B.2.1 ++ D, B.2.2) := ⟨rfl, fun k hk => funext (fun i => g k i (fun z => by have := h90 _ z; simp only at this; omega)), fun k i q => g k i (fun z => by
        rcases q with q | q
        · exact hf _ q z
        · have := h90 _ z
          simp only at this
          omega), fun q hq => List.mem_append_left _ hq, fun k i hm => by
        rcases List.mem_append.mp hm with z | z
        · exact cin.mono (fun q hq => List.mem_append_left _ hq) (hC k i z)
        · exact (hci k i z).mono (fun q hq => List.mem_append_right _ hq)⟩
    have hM' : okM (B.2.1 ++ D) (blk σ D) := by
      refine ⟨fun k i o => ?_, fun k i o => ?_, fun k i o t ht => ?_⟩
      · show inR (if (k, i) ∈ D then bl k o else σ.1 k i o)
        split
        · unfold bl
          repeat' split
          all_goals exact ⟨by decide, by decide⟩
        · exact hM.1 k i o
      · show inL (if (k, i) ∈ D then 0 else σ.2.1 k i o)
        split
        · exact ⟨by decide, by decide⟩
        · exact hM.2.1 k i o
      · have ht : (if (k, i) ∈ D then br k o else σ.2.2 k i o) = some t := ht
        split at ht
        · rename_i z
          rw [hbr k i z o] at ht
          cases ht
        · exact okr_mono (fun q hq => List.mem_append_left _ hq) (hM.2.2 k i o t ht)
    have ew : wld (al', B.2.1 ++ D, B.2.2) (blk σ D) = wld B σ ++ wld (al', D, B.2.2) σI := by
      rw [wld_ext (B := B) (B' := (al', B.2.1 ++ D, B.2.2)) (σ := σ) (D' := D) rfl hE.2.2.1 (fun o => g 8 (o + 3) (h8n _)) rfl hC hM (fun k i hm o => by
        have z := hf _ hm
        exact ⟨if_neg z, if_neg z, if_neg z⟩)]
      congr 1
      unfold wld
      refine List.map_congr_left (fun q hq => ?_)
      obtain ⟨k, i⟩ := q
      show (al' k i, cel (al', B.2.1 ++ D, B.2.2) (blk σ D) k i) = (al' k i, cel (al', B.2.1 ++ D, B.2.2) σI k i)
      rw [cel_eq (σ := blk σ D) (τ := σI) (fun o => ⟨if_pos hq, if_pos hq, if_pos hq⟩)]
    have kk := hk' (p, l, e, R, s, m, args, below, meth, c, Q, cells + (1 + mc), slots + (jn K + ms), (al', B.2.1 ++ D, B.2.2), nL) ⟨_, hE, rfl⟩ rfl ls _ (blk σ D) hw H1 locs1 rls1 ⟨by rw [ew]; exact hP1, by rw [ew]; exact hD1⟩ hS1 (by rw [lmp_ext hE ls 0 hL]; exact hl1) hM' (oks_cons (show okr (B.2.1 ++ D) K j from Or.inl (List.mem_append_right _ hKj)) (oks_mono hE.2.2.2.1 hs)) (okl_mono hE.2.2.2.1 hL)
    have est : (Sum.inr (Sum.inr (K, some j)) :: st : List jV).map (vr al') = .ref (al' K j) :: st.map (vr B.1) := by
      rw [List.map_cons]
      have := st_ext hE hs
      show vr al' _ :: st.map (vr al') = _
      rw [this]
      rfl
    show W p l e R s m args below meth c H1 locs1 (cells + 1 + mc) (slots + jn K + ms) Q (F0 m (pc + 7) rls1 (.ref (al' K j) :: st.map (vr B.1)))
    rw [← est, Nat.add_assoc cells, Nat.add_assoc slots]
    exact kk
  exact key H locs rls hP.1 hP.2 hS hl
end R10
/-- a growing contract out of a walk of the body -/
theorem CtG.intro {d mc ms : Nat} {M : jMT} {as : List jV} {σ : jM} {a b : Int} {Φ : jPg} {own : String} (hpl : plainFor M.1 = true) (hown : M.1.cls = own) (hlen : (lent as).length ≤ M.2.2.1)
    (body : ∀ X, Cx X own M.2.1 M.2.2.1 → Rm X d → RtG X M.2.2.2 Φ mc ms → Dinv (xB X).2.1 a b → AtX X 0 (lins as M.2.2.1) [] σ) : CtG (d + 1) mc ms M as σ a b Φ := by
  intro l B hC hM ho hD
  refine va_MetF (cc := M.2.1) (maxL := M.2.2.1) (ret := M.2.2.2) hpl rfl ?_
  intro p e s m args below meth c s₁ Bd hml hv
  obtain ⟨rfl, hT, hK, hbase, hRm, hP⟩ := hv
  have hown' : s.vm.findClass own = some m.cls := by rw [← hown]; exact findClass_of_methodNamed Bd.named
  have hl := lv_entry (as.map (vr B.1)) (n := M.2.2.1) (by rw [lent_len]; exact hlen)
  rw [lg_entry_eq]
  have h := body (p, l, e, rmc (d + 1) mc ms, s, m, (as.map (vr B.1)).toArray, below, meth, c, MQ below (QcG B Φ) (as.map (vr B.1)).toArray s mc ms (sysA B), 0, 0, B, M.2.2.1) ⟨Bd.exec, Bd.bytes, hml, rfl, hown', hT, hK, hbase, Bd.notSynchronized, hRm, hC⟩ ⟨Nat.le_refl _, Nat.le_refl _, Nat.zero_le _, Nat.zero_le _⟩ ⟨Bd.returns, B, mc, ms, rfl, Ext.rf hC, by omega, by omega, Nat.le_refl _, Nat.le_refl _⟩ hD
  refine h s.heap [] _ hP va_S.rf ?_ hM oks_nil ?_
  · unfold lins
    rw [lmp_ent]
    exact hl
  · intro o ho' w hw
    rcases List.mem_append.mp ho' with h1 | h1
    · exact okl_ent as ho o h1 w hw
    · rw [List.mem_replicate] at h1
      rw [h1.2] at hw
      cases hw
