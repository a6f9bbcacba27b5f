/-! ===== 08 calls: contracts, returns, calls, the way in ===== -/
abbrev jMT : Type := MethodName × ByteArray × Nat × Option FieldType
abbrev jPh : Type := Option jV → jM → Prop
def rmd (d : Nat) : Room := { frames := d, cells := 0, slots := 0, locals := 64 * d }
def PcX (B : jB) (as : List jV) (σ : jM) : Array Value → State → Prop := fun v U => v = (as.map (vr B.1)).toArray ∧ Tb U ∧ va_K B.2.2.1 jcl (jtys B) U ∧ B.2.2.2.2 ≤ U.heap.size ∧ Rom B U ∧ Rp B σ U.heap
def QcX (B : jB) (Φ : jPh) : Array Value → State → Outcome → State → Prop := fun _ st oc t => (∃ (r : Option jV) (τ : jM), oc = .returned (r.map (vr B.1)) ∧ Φ r τ ∧ okM B.2.1 τ ∧ (∀ v, r = some v → okv B.2.1 v) ∧ Rp B τ t.heap) ∧ va_F (sysA B) st t
/-- from any heap that holds the memory, the method returns, as Φ says, and nothing but our things has changed -/
def Ct (d : Nat) (M : jMT) (as : List jV) (σ : jM) (Φ : jPh) : Prop := ∀ (l : Launch) (B : jB), clo B → okM B.2.1 σ → oks B.2.1 as → Met l M.1 [.code M.1 M.2.1 M.2.2.1 M.2.2.2] (rmd d) (PcX B as σ) (QcX B Φ) 0 0 (sysA B)
def Rt (X : jX) (rt : Option FieldType) (Φ : jPh) : Prop := match X with
  | (_, _, _, _, s, _, args, below, meth, _, Q, cells, slots, B, _) => meth.sig.returnType = rt ∧ Q = MQ below (QcX B Φ) args s cells slots (sysA B)
def Rm (X : jX) (d : Nat) : Prop := match X with
  | (_, _, _, R, _, _, _, _, _, _, _, cells, slots, _, _) => d + 1 ≤ R.frames ∧ 64 * (d + 1) ≤ R.locals ∧ cells ≤ R.cells ∧ slots ≤ R.slots
theorem okv_some {D : List (Nat × Nat)} {v : jV} (h : okv D v) : ∀ w, some v = some w → okv D w := fun w e => by cases e; exact h
theorem okv_none {D : List (Nat × Nat)} : ∀ w, (none : Option jV) = some w → okv D w := fun w e => by cases e
-- returns
def c_iret (Φ : jPh) : jWp := fun _ st σ => match st with
  | [.inl x] => Φ (some (.inl x)) σ
  | _ => False
def c_zret (Φ : jPh) : jWp := fun _ st σ => match st with
  | [.inl x] => (x = 0 ∨ x = 1) ∧ Φ (some (.inl x)) σ
  | _ => False
def c_nret (ty : FieldType) (Φ : jPh) : jWp := fun _ st σ => match st with
  | [.inl x] => narrow ty (.int (Int32.ofInt x)) = .int (Int32.ofInt x) ∧ Φ (some (.inl x)) σ
  | _ => False
def c_aret (Φ : jPh) : jWp := fun _ st σ => match st with
  | [.inr (.inr r)] => Φ (some (.inr (.inr r))) σ
  | _ => False
def c_vret (Φ : jPh) : jWp := fun _ st σ => match st with
  | [] => Φ none σ
  | _ => False
section R7
variable {X : jX} {own : String} {cc : ByteArray} {N pc : Nat} {Φ : jPh}
theorem r_iret (h : Cx X own cc N) (hr : Rt X (some .int) Φ) (hd : decode cc pc = .ok (.ireturn, 1)) : Sn X pc (c_iret Φ) := by
  obtain ⟨p, l, e, R, s, m, args, below, meth, c, Q, cells, slots, B, nL⟩ := X
  obtain ⟨hx, hb, -, -, -, -, -, -, hlocks, -⟩ := h
  obtain ⟨hr, rfl⟩ := hr
  intro ls st σ hw H locs rls hP hS hl hM hs hL
  rcases st with _ | ⟨x | x | x, _ | ⟨y, st⟩⟩ <;> first | exact hw.elim | skip
  exact W.iret hx hb hr (fun t ht _ => ⟨⟨some (.inl x), σ, rfl, hw, hM, okv_some (oks_hd hs), by rw [ht]; exact hP⟩, hS.F ht⟩) hS.2.2 hd
theorem r_zret (h : Cx X own cc N) (hr : Rt X (some .boolean) Φ) (hd : decode cc pc = .ok (.ireturn, 1)) : Sn X pc (c_zret Φ) := by
  obtain ⟨p, l, e, R, s, m, args, below, meth, c, Q, cells, slots, B, nL⟩ := X
  obtain ⟨hx, hb, -, -, -, -, -, -, hlocks, -⟩ := h
  obtain ⟨hr, rfl⟩ := hr
  intro ls st σ hw H locs rls hP hS hl hM hs hL
  rcases st with _ | ⟨x | x | x, _ | ⟨y, st⟩⟩ <;> first | exact hw.elim | skip
  obtain ⟨h01, hw⟩ := hw
  exact W.zret hx hb hr (by rcases h01 with rfl | rfl <;> rfl) (fun t ht _ => ⟨⟨some (.inl x), σ, rfl, hw, hM, okv_some (oks_hd hs), by rw [ht]; exact hP⟩, hS.F ht⟩) hS.2.2 hd
theorem r_nret {ty : FieldType} (h : Cx X own cc N) (hr : Rt X (some ty) Φ) (hd : decode cc pc = .ok (.ireturn, 1)) : Sn X pc (c_nret ty Φ) := by
  obtain ⟨p, l, e, R, s, m, args, below, meth, c, Q, cells, slots, B, nL⟩ := X
  obtain ⟨hx, hb, -, -, -, -, -, -, hlocks, -⟩ := h
  obtain ⟨hr, rfl⟩ := hr
  intro ls st σ hw H locs rls hP hS hl hM hs hL
  rcases st with _ | ⟨x | x | x, _ | ⟨y, st⟩⟩ <;> first | exact hw.elim | skip
  obtain ⟨hn, hw⟩ := hw
  exact W.zret hx hb hr hn (fun t ht _ => ⟨⟨some (.inl x), σ, rfl, hw, hM, okv_some (oks_hd hs), by rw [ht]; exact hP⟩, hS.F ht⟩) hS.2.2 hd
theorem r_aret {C : String} (h : Cx X own cc N) (hr : Rt X (some (.object C)) Φ) (hd : decode cc pc = .ok (.areturn, 1)) : Sn X pc (c_aret Φ) := by
  obtain ⟨p, l, e, R, s, m, args, below, meth, c, Q, cells, slots, B, nL⟩ := X
  obtain ⟨hx, hb, -, -, -, -, -, -, hlocks, -⟩ := h
  obtain ⟨hr, rfl⟩ := hr
  intro ls st σ hw H locs rls hP hS hl hM hs hL
  rcases st with _ | ⟨x | x | ⟨k', _ | j⟩, _ | ⟨y, st⟩⟩ <;> first | exact hw.elim | skip
  · exact W.aret (v := .null) hx hb hr (Or.inl ⟨C, rfl⟩) (Or.inl rfl) (fun t ht _ => ⟨⟨some (.inr (.inr (k', none))), σ, rfl, hw, hM, okv_some (oks_hd hs), by rw [ht]; exact hP⟩, hS.F ht⟩) hS.2.2 hd
  · exact W.aret (v := .ref (B.1 k' j)) hx hb hr (Or.inl ⟨C, rfl⟩) (Or.inr ⟨_, rfl⟩) (fun t ht _ => ⟨⟨some (.inr (.inr (k', some j))), σ, rfl, hw, hM, okv_some (oks_hd hs), by rw [ht]; exact hP⟩, hS.F ht⟩) hS.2.2 hd
theorem r_vret (h : Cx X own cc N) (hr : Rt X none Φ) (hd : decode cc pc = .ok (.return_, 1)) : Sn X pc (c_vret Φ) := by
  obtain ⟨p, l, e, R, s, m, args, below, meth, c, Q, cells, slots, B, nL⟩ := X
  obtain ⟨hx, hb, -, -, -, -, -, -, hlocks, -⟩ := h
  obtain ⟨hr, rfl⟩ := hr
  intro ls st σ hw H locs rls hP hS hl hM hs hL
  rcases st with _ | ⟨x, st⟩ <;> first | exact hw.elim | skip
  exact W.vret hx hb hr (fun t ht _ => ⟨⟨none, σ, rfl, hw, hM, okv_none, by rw [ht]; exact hP⟩, hS.F ht⟩) hS.2.2 hd
end R7
-- calls
def tkA : Nat → List jV → List jV → (List jV → List jV → Prop) → Prop
  | 0, acc, st, f => f acc st
  | n + 1, acc, v :: st, f => tkA n (v :: acc) st f
  | _ + 1, _, [], _ => False
theorem tkA_spec {f : List jV → List jV → Prop} : ∀ (n : Nat) (acc st : List jV), tkA n acc st f → ∃ as rest, as.length = n ∧ st = as.reverse ++ rest ∧ f (as ++ acc) rest
  | 0, acc, st, h => ⟨[], st, rfl, rfl, h⟩
  | n + 1, acc, v :: st, h => by
    obtain ⟨as, rest, h1, h2, h3⟩ := tkA_spec n (v :: acc) st h
    exact ⟨as ++ [v], rest, by simp [h1], by simp [h2], by simpa using h3⟩
  | n + 1, acc, [], h => h.elim
def c_callV (d : Nat) (M : jMT) (K n : Nat) (k : jWp) : jWp := fun ls st σ => tkA (n + 1) [] st (fun as rest => match as with
  | .inr (.inr (k', some j)) :: As => k' = K ∧ vsz rest ≤ 8 ∧ Ct d M (.inr (.inr (K, some j)) :: As) σ (fun r τ => k ls (jpush r rest) τ)
  | _ => False)
def c_callS (d : Nat) (M : jMT) (n : Nat) (k : jWp) : jWp := fun ls st σ => tkA n [] st (fun as rest => vsz rest ≤ 8 ∧ Ct d M as σ (fun r τ => k ls (jpush r rest) τ))
theorem vsz_sum {al : Nat → Nat → Nat} : ∀ (st : List jV), ((st.map (vr al)).map fun v => v.category).sum = vsz st
  | [] => rfl
  | v :: st => by simp only [List.map_cons, List.sum_cons, vsz, vr_cat, vsz_sum st]
theorem oks_app {D : List (Nat × Nat)} {a b : List jV} (h : oks D (a ++ b)) : oks D a ∧ oks D b := ⟨fun v hv => h v (List.mem_append_left _ hv), fun v hv => h v (List.mem_append_right _ hv)⟩
theorem oks_rev {D : List (Nat × Nat)} {a : List jV} (h : oks D a.reverse) : oks D a := fun v hv => h v (List.mem_reverse.mpr hv)
theorem oks_push {D : List (Nat × Nat)} {r : Option jV} {st : List jV} (h : ∀ v, r = some v → okv D v) (hs : oks D st) : oks D (jpush r st) := by
  cases r with
  | none => exact hs
  | some v => exact oks_cons (h v rfl) hs
theorem blindX {B : jB} {as : List jV} {σ : jM} : FrameBlind (PcX B as σ) := by
  intro a U g mk ⟨h1, h2, h3, h4, h5, h6⟩
  refine ⟨h1, Tb.same (u := U) rfl h2, va_K.moved (u := U) (Vm.Alike.refl U.vm) h3, h4, ?_, h6⟩
  exact Rom.call (s := U) (locs := []) h5 va_S.rf (State.WarmedH.refl U) rfl
/-- what must hold of a method that is called by a receiver of the kind K with n more arguments -/
def MV (M : jMT) (K n : Nat) : Prop := Cond.code M.1 M.2.1 M.2.2.1 M.2.2.2 ∈ lw_tbl ∧ Cond.instanceMethod M.1 ∈ lw_tbl ∧ Cond.selects (jR K) M.1 M.1 ∈ lw_tbl ∧ Cond.initialized M.1.cls ∈ lw_tbl ∧ (M.1.cls ≠ "java/lang/invoke/MethodHandle" ∧ M.1.cls ≠ "java/lang/invoke/VarHandle") ∧ (parseMethodDescriptor M.1.desc).map (fun d => d.parameters.length) = some n ∧ M.2.2.1 ≤ 45
def MS (M : jMT) (n : Nat) : Prop := Cond.code M.1 M.2.1 M.2.2.1 M.2.2.2 ∈ lw_tbl ∧ Cond.static M.1 ∈ lw_tbl ∧ Cond.initialized M.1.cls ∈ lw_tbl ∧ (M.1.cls ≠ "java/lang/invoke/MethodHandle" ∧ M.1.cls ≠ "java/lang/invoke/VarHandle") ∧ (parseMethodDescriptor M.1.desc).map (fun d => d.parameters.length) = some n ∧ M.2.2.1 ≤ 45
def mlk (own : String) (ix : Nat) (M : jMT) : Prop := Cond.methodLink own ix M.1 ∈ lw_tbl ∨ ∃ host, Cond.methodLinkNest own ix M.1 host ∈ lw_tbl
section R8
variable {p : Program} {l : Launch} {e : Env} {R : Room} {s : State} {m : MethodId} {args : Array Value} {below : List Frame} {meth : Method} {c : Code} {H : Heap} {locs : List Loc} {cells slots : Nat} {Q : State → Prop} {B : jB} {pc : Nat} {rls : Array Slot}
/-- behind a call that makes nothing -/
theorem after_W {Φ : jPh} {a : Array Value} {st0 rest : List Value} (hr : va_Run p l e R s m args below meth c H locs cells slots 0 0 (F0 m pc rls st0) rest (QcX B Φ a) (sysA B)) (hS : va_S (sysA B) s.heap H locs)
    (kk : ∀ (r : Option jV) (τ : jM) (H1 : Heap) (locs1 : List Loc), Φ r τ → okM B.2.1 τ → (∀ v, r = some v → okv B.2.1 v) → Rp B τ H1 → va_S (sysA B) s.heap H1 locs1 → W p l e R s m args below meth c H1 locs1 cells slots Q (F0 m (pc + 3) rls ((r.map (vr B.1)).toList ++ rest))) : W p l e R s m args below meth c H locs cells slots Q (F0 m pc rls st0) := by
  intro T hT X
  obtain ⟨v, st₀, t, T', L, h0, X', hL, e1, e2, ⟨⟨r, τ, hv, hp, hM, ho, hP⟩, hz, hk⟩, st⟩ := hr T hT X
  cases hv
  rw [h0] at hz hk
  obtain ⟨t2, a1, b1⟩ := kk r τ T'.heap (locs ++ L) hp hM ho (by rw [e1]; exact hP) ⟨Nat.le_trans hS.1 (by rw [e1]; exact hz), fun q h1 h2 => by rw [e1, hk q (Nat.lt_of_lt_of_le h1 hS.1) h2]; exact hS.2.1 q h1 h2, fun q hq => by
      rcases List.mem_append.mp hq with h | h
      · exact hS.2.2 q h
      · exact hL q h⟩ T' rfl X'
  exact ⟨t2, st t2 a1, b1⟩
end R8
section R9
variable {X : jX} {own : String} {cc : ByteArray} {N pc ix d K n : Nat} {M : jMT} {k : jWp}
theorem r_callV (h : Cx X own cc N) (hR : Rm X d) (hm : MV M K n) (hK11 : K < 11) (hlk : mlk own ix M) (hd : decode cc pc = .ok (.invokevirtual ix, 3)) (hk : Sn X (pc + 3) k) : Sn X pc (c_callV d M K n k) := by
  obtain ⟨p, l, e, R, s, m, args, below, meth, c, Q, cells, slots, B, nL⟩ := X
  obtain ⟨hx, hb, hml, hN, hown, hT, hK, hbase, hlocks, hRm, hC⟩ := h
  obtain ⟨hR1, hR2, hR3, hR4⟩ := hR
  obtain ⟨w1, w2, w3, w4, hmh, hds, hmx⟩ := hm
  intro ls st σ hw H locs rls hP hS hl hM hs hL
  obtain ⟨as, rest, has, rfl, hw2⟩ := tkA_spec (n + 1) [] st hw
  clear hw
  rw [List.append_nil] at hw2
  rcases as with _ | ⟨x | x | ⟨k', _ | j⟩, As⟩ <;> first | exact hw2.elim | skip
  obtain ⟨rfl, hv8, hw⟩ := hw2
  have hAs : As.length = n := by simpa using has
  obtain ⟨ho1, ho2⟩ := oks_app hs
  have ho1 := oks_rev ho1
  have hj := okr_in (oks_hd ho1) (Nat.lt_trans hK11 (by decide))
  have hM1 := hw l B hC hM ho1
  have hrecv : ∃ cellB : Cell, H[B.1 k' j]? = some cellB ∧ cellB.vm.isStatics = false ∧ s.vm.findClass (jR k') = some cellB.cls := by
    obtain ⟨q0, hq, -⟩ := wld_at (σ := σ) hj
    rw [cel_o hK11] at hq
    exact va_recv hK hP.1 (jcl_at k' hK11) hq
  have hpre : PreV s H (jR k') (B.1 k' j) (PcX B (.inr (.inr (k', some j)) :: As) σ) (As.map (vr B.1)) := ⟨blindX, hrecv, fun U hU hW => ⟨rfl, hT.warm hW, va_K.moved hW.alike hK, by rw [hU]; exact Nat.le_trans hbase hS.1, hRm.call hS hW hU, by rw [hU]; exact hP⟩⟩
  have hlen : ∀ sig, parseMethodDescriptor M.1.desc = some sig → n = sig.parameters.length := fun sig hsig => by rw [hsig] at hds; exact (Option.some.inj hds).symm
  have hws : ∀ w ∈ [Cond.code M.1 M.2.1 M.2.2.1 M.2.2.2], ∀ (a' : Array Value) (U : State), s.WarmedH U.vm → w.before a' U = true := fun w hw a' U hW => by
    rw [List.mem_singleton] at hw
    subst hw
    exact hT.warm hW _ w1 rfl _
  have hstk : (F0 m pc rls (((Sum.inr (Sum.inr (k', some j)) :: As).reverse ++ rest).map (vr B.1))).stack = (As.map (vr B.1)).reverse ++ .ref (B.1 k' j) :: rest.map (vr B.1) := by simp [vr]
  have h8 : 2 * (F0 m pc rls (((Sum.inr (Sum.inr (k', some j)) :: As).reverse ++ rest).map (vr B.1))).monitorRoom + ((rest.map (vr B.1)).map fun v => v.category).sum ≤ 8 := by rw [vsz_sum]; show 2 * 0 + _ ≤ 8; omega
  have hfr : (rmd d).frames + 1 ≤ R.frames := hR1
  have hlo : 8 + (M.2.2.1 + 11) + (rmd d).locals ≤ R.locals := by show 8 + (M.2.2.1 + 11) + 64 * d ≤ R.locals; omega
  have run : va_Run p l e R s m args below meth c H locs cells slots 0 0 (F0 m pc rls (((Sum.inr (Sum.inr (k', some j)) :: As).reverse ++ rest).map (vr B.1))) (rest.map (vr B.1)) (QcX B (fun r τ => k ls (jpush r rest) τ) (Value.ref (B.1 k' j) :: As.map (vr B.1)).toArray) (sysA B) := by
    rcases hlk with hlk | ⟨host, hlk⟩
    · exact va_runV (Ts := []) (nL := nL) ⟨hx, hb, hml, hown, fun w hw => by cases hw⟩ hM1 ⟨⟨rfl, rfl, hfr, hlo, hws, List.mem_singleton.mpr rfl, hT _ w1 rfl _, hT _ w4 rfl _, hmh, hlen, hT _ hlk rfl _⟩, hT _ w2 rfl _, hT _ w3 rfl _⟩ hpre rfl (by simpa using hAs) hl.1 hstk h8 hd ⟨hR3, hR4⟩
    · exact va_runVN (Ts := []) (nL := nL) ⟨hx, hb, hml, hown, fun w hw => by cases hw⟩ hM1 ⟨⟨⟨rfl, rfl, hfr, hlo, hws, List.mem_singleton.mpr rfl⟩, hT _ w1 rfl _, hT _ w4 rfl _, hmh, hlen, hT _ hlk rfl _⟩, hT _ w2 rfl _, hT _ w3 rfl _⟩ hpre rfl (by simpa using hAs) hl.1 hstk h8 hd ⟨hR3, hR4⟩
  refine after_W run hS (fun r τ H1 locs1 hp hM' ho hP' hS' => ?_)
  have := hk ls _ τ hp H1 locs1 rls hP' hS' hl hM' (oks_push ho ho2) hL
  cases r <;> exact this
theorem r_callS (h : Cx X own cc N) (hR : Rm X d) (hm : MS M n) (hlk : mlk own ix M) (hd : decode cc pc = .ok (.invokestatic ix, 3)) (hk : Sn X (pc + 3) k) : Sn X pc (c_callS d M n k) := by
  obtain ⟨p, l, e, R, s, m, args, below, meth, c, Q, cells, slots, B, nL⟩ := X
  obtain ⟨hx, hb, hml, hN, hown, hT, hK, hbase, hlocks, hRm, hC⟩ := h
  obtain ⟨hR1, hR2, hR3, hR4⟩ := hR
  obtain ⟨w1, w2, w4, hmh, hds, hmx⟩ := hm
  intro ls st σ hw H locs rls hP hS hl hM hs hL
  obtain ⟨as, rest, has, rfl, hw2⟩ := tkA_spec n [] st hw
  clear hw
  rw [List.append_nil] at hw2
  obtain ⟨hv8, hw⟩ := hw2
  obtain ⟨ho1, ho2⟩ := oks_app hs
  have ho1 := oks_rev ho1
  have hM1 := hw l B hC hM ho1
  have hpre : PreS s H (PcX B as σ) (as.map (vr B.1)) := ⟨blindX, fun U hU hW => ⟨rfl, hT.warm hW, va_K.moved hW.alike hK, by rw [hU]; exact Nat.le_trans hbase hS.1, hRm.call hS hW hU, by rw [hU]; exact hP⟩⟩
  have hlen : ∀ sig, parseMethodDescriptor M.1.desc = some sig → n = sig.parameters.length := fun sig hsig => by rw [hsig] at hds; exact (Option.some.inj hds).symm
  have hws : ∀ w ∈ [Cond.code M.1 M.2.1 M.2.2.1 M.2.2.2], ∀ (a' : Array Value) (U : State), s.WarmedH U.vm → w.before a' U = true := fun w hw a' U hW => by
    rw [List.mem_singleton] at hw
    subst hw
    exact hT.warm hW _ w1 rfl _
  have hstk : (F0 m pc rls ((as.reverse ++ rest).map (vr B.1))).stack = (as.map (vr B.1)).reverse ++ rest.map (vr B.1) := by simp
  have h8 : 2 * (F0 m pc rls ((as.reverse ++ rest).map (vr B.1))).monitorRoom + ((rest.map (vr B.1)).map fun v => v.category).sum ≤ 8 := by rw [vsz_sum]; show 2 * 0 + _ ≤ 8; omega
  have hfr : (rmd d).frames + 1 ≤ R.frames := hR1
  have hlo : 8 + (M.2.2.1 + 11) + (rmd d).locals ≤ R.locals := by show 8 + (M.2.2.1 + 11) + 64 * d ≤ R.locals; omega
  have run : va_Run p l e R s m args below meth c H locs cells slots 0 0 (F0 m pc rls ((as.reverse ++ rest).map (vr B.1))) (rest.map (vr B.1)) (QcX B (fun r τ => k ls (jpush r rest) τ) (as.map (vr B.1)).toArray) (sysA B) := by
    rcases hlk with hlk | ⟨host, hlk⟩
    · exact va_runS (Ts := []) (nL := nL) ⟨hx, hb, hml, hown, fun w hw => by cases hw⟩ hM1 ⟨⟨rfl, rfl, hfr, hlo, hws, List.mem_singleton.mpr rfl, hT _ w1 rfl _, hT _ w4 rfl _, hmh, hlen, hT _ hlk rfl _⟩, hT _ w2 rfl _⟩ hpre rfl (by simpa using has) hl.1 hstk h8 hd ⟨hR3, hR4⟩
    · exact va_runSN (Ts := []) (nL := nL) ⟨hx, hb, hml, hown, fun w hw => by cases hw⟩ hM1 ⟨⟨⟨rfl, rfl, hfr, hlo, hws, List.mem_singleton.mpr rfl⟩, hT _ w1 rfl _, hT _ w4 rfl _, hmh, hlen, hT _ hlk rfl _⟩, hT _ w2 rfl _, trivial⟩ hpre rfl (by simpa using has) hl.1 hstk h8 hd ⟨hR3, hR4⟩
  refine after_W run hS (fun r τ H1 locs1 hp hM' ho hP' hS' => ?_)
  have := hk ls _ τ hp H1 locs1 rls hP' hS' hl hM' (oks_push ho ho2) hL
  cases r <;> exact this
end R9
-- the way in
def lent : List jV → jL
  | [] => []
  | v :: t => if jcat v = 2 then some v :: none :: lent t else some v :: lent t
def lins (as : List jV) (N : Nat) : jL := lent as ++ List.replicate (N - (lent as).length) none
theorem lmp_rep {al : Nat → Nat → Nat} : ∀ (n i : Nat), lmp al i (List.replicate n none) = []
  | 0, _ => rfl
  | n + 1, i => by rw [List.replicate_succ]; exact lmp_rep n (i + 1)
theorem lmp_ent {al : Nat → Nat → Nat} : ∀ (as : List jV) (i n : Nat), lmp al i (lent as ++ List.replicate n none) = lv_args i (as.map (vr al))
  | [], i, n => lmp_rep n i
  | v :: t, i, n => by
    by_cases h : jcat v = 2
    · simp only [lent, h, if_true, List.cons_append, lmp, List.map_cons, lv_args, vr_cat, lmp_ent t]
    · simp only [lent, h, if_false, List.cons_append, lmp, List.map_cons, lv_args, vr_cat, lmp_ent t]
theorem lent_len {al : Nat → Nat → Nat} : ∀ (as : List jV), (lg_sl (as.map (vr al))).length = (lent as).length
  | [] => rfl
  | v :: t => by
    have := lent_len (al := al) t
    unfold lg_sl at this ⊢
    by_cases h : jcat v = 2
    · simp [lent, h, vr_cat, this]
    · simp [lent, h, vr_cat, this]
theorem okl_ent {D : List (Nat × Nat)} : ∀ (as : List jV), oks D as → okl D (lent as)
  | [], _ => fun o h => by cases h
  | v :: t, h => by
    have ih := okl_ent t (oks_tl h)
    intro o ho w hw
    unfold lent at ho
    split at ho
    · rcases List.mem_cons.mp ho with rfl | ho
      · cases hw; exact oks_hd h
      · rcases List.mem_cons.mp ho with rfl | ho
        · cases hw
        · exact ih o ho w hw
    · rcases List.mem_cons.mp ho with rfl | ho
      · cases hw; exact oks_hd h
      · exact ih o ho w hw
/-- a contract out of a walk of the body -/
theorem Ct.intro {d : Nat} {M : jMT} {as : List jV} {σ : jM} {Φ : jPh} {own : String} (hpl : plainFor M.1 = true) (hown : M.1.cls = own) (hlen : (lent as).length ≤ M.2.2.1)
    (body : ∀ X, Cx X own M.2.1 M.2.2.1 → Rm X d → Rt X M.2.2.2 Φ → AtX X 0 (lins as M.2.2.1) [] σ) : Ct (d + 1) M as σ Φ := by
  intro l B hC hM ho
  refine va_MetF (cc := M.2.1) (maxL := M.2.2.1) (ret := M.2.2.2) hpl rfl ?_
  intro p e s m args below meth c s₁ Bd hml hv
  obtain ⟨rfl, hT, hK, hbase, hRm, hP⟩ := hv
  have hown' : s.vm.findClass own = some m.cls := by rw [← hown]; exact findClass_of_methodNamed Bd.named
  have hl := lv_entry (as.map (vr B.1)) (n := M.2.2.1) (by rw [lent_len]; exact hlen)
  rw [lg_entry_eq]
  have h := body (p, l, e, rmd (d + 1), s, m, (as.map (vr B.1)).toArray, below, meth, c, MQ below (QcX B Φ) (as.map (vr B.1)).toArray s 0 0 (sysA B), 0, 0, B, M.2.2.1) ⟨Bd.exec, Bd.bytes, hml, rfl, hown', hT, hK, hbase, Bd.notSynchronized, hRm, hC⟩ ⟨Nat.le_refl _, Nat.le_refl _, Nat.le_refl _, Nat.le_refl _⟩ ⟨Bd.returns, rfl⟩
  refine h s.heap [] _ hP va_S.rf ?_ hM oks_nil ?_
  · unfold lins
    rw [lmp_ent]
    exact hl
  · intro o ho' w hw
    rcases List.mem_append.mp ho' with h1 | h1
    · exact okl_ent as ho o h1 w hw
    · rw [List.mem_replicate] at h1
      rw [h1.2] at hw
      cases hw
theorem Ct.mono {d : Nat} {M : jMT} {as : List jV} {σ : jM} {Φ Ψ : jPh} (h : Ct d M as σ Φ) (hi : ∀ r τ, Φ r τ → Ψ r τ) : Ct d M as σ Ψ := by
  intro l B hC hM ho
  have := h l B hC hM ho
  intro p e ha hc hk s m args below hf hm hp hkk
  obtain ⟨k, o, h1, h2, h3, ⟨⟨⟨r, τ, a1, a2, a3⟩, a4⟩, a5⟩⟩ := this p e ha hc hk s m args below hf hm hp hkk
  exact ⟨k, o, h1, h2, h3, ⟨⟨⟨r, τ, a1, hi r τ a2, a3⟩, a4⟩, a5⟩⟩
