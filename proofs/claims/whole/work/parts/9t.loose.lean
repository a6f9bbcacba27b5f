/-! ===== 9t making: the machine over cells that aren't things of the memory yet ===== -/
def xB (X : jX) : jB := match X with
  | (_, _, _, _, _, _, _, _, _, _, _, _, _, B, _) => B
/-- the machine at pc, over the cells w, with the locals L and the pile st -/
def AtW (X : jX) (pc cells slots : Nat) (L : List (Nat × Value)) (st : List Value) (w : va_W) : Prop := match X with
  | (p, l, e, R, s, m, args, below, meth, c, Q, _, _, B, nL) => ∀ (H : Heap) (locs : List Loc) (rls : Array Slot), va_P B.2.2.1 jcl w H → va_D (sysA B) w → va_S (sysA B) s.heap H locs → lv_has rls nL L → W p l e R s m args below meth c H locs cells slots Q (F0 m pc rls st)
def Ini (X : jX) : Prop := match X with
  | (_, _, _, _, _, _, _, _, meth, _, _, _, _, _, _) => meth.name = "<init>"
def Rmc (X : jX) (cells slots : Nat) : Prop := match X with
  | (_, _, _, R, _, _, _, _, _, _, _, _, _, _, _) => cells ≤ R.cells ∧ slots ≤ R.slots
def Rtw (X : jX) (rt : Option FieldType) (Qc : Array Value → State → Outcome → State → Prop) (mc ms : Nat) : Prop := match X with
  | (_, _, _, _, s, _, args, below, meth, _, Q, _, _, B, _) => meth.sig.returnType = rt ∧ Q = MQ below Qc args s mc ms (sysA B)
def psh (cc : ByteArray) (pc : Nat) (n : Int) (len : Nat) : Prop := (decode cc pc = .ok (.iconst n, 1) ∧ len = 1) ∨ (decode cc pc = .ok (.bipush n, 2) ∧ (Int8.ofInt n).toInt32 = Int32.ofInt n ∧ len = 2) ∨ (decode cc pc = .ok (.sipush n, 3) ∧ (Int16.ofInt n).toInt32 = Int32.ofInt n ∧ len = 3)
theorem set_app {α : Type} : ∀ (ws lo : List α) (x y : α), (ws ++ x :: lo).set ws.length y = ws ++ y :: lo
  | [], lo, x, y => rfl
  | a :: ws, lo, x, y => by simp only [List.cons_append, List.length_cons, List.set_cons_succ, set_app ws lo x y]
theorem at_app {α : Type} (ws lo : List α) (x : α) : (ws ++ x :: lo)[ws.length]? = some x := by simp
theorem nr_lt {nr : Nat} (h : nr ≤ 20000) : ¬ Int32.ofInt nr < 0 := by
  have e : (0 : Int32) = Int32.ofInt 0 := rfl
  rw [e, of_lt ⟨by omega, by omega⟩ ⟨by omega, by omega⟩]
  omega
theorem nr_cl {nr : Nat} (h : nr ≤ 20000) : (Int32.ofInt nr).toNatClampNeg = nr := by
  rw [cl_of ⟨by omega, by omega⟩]
  omega
section A1
variable {X : jX} {own : String} {cc : ByteArray} {N pc cells slots : Nat} {L : List (Nat × Value)} {st : List Value} {w : va_W}
theorem a_al {n : Fin 4} {i a : Nat} (h : Cx X own cc N) (hd : decode cc pc = .ok (.aload_n n, 1)) (hi : (n : Nat) = i) (hL : (i, Value.ref a) ∈ L) (hk : AtW X (pc + 1) cells slots L (.ref a :: st) w) : AtW X pc cells slots L st w := by
  obtain ⟨p, l, e, R, s, m, args, below, meth, c, Q, c1, c2, B, nL⟩ := X
  obtain ⟨hx, hb, -⟩ := h
  intro H locs rls hP hD hS hl
  exact lv_aload_n hx hb hd hi (hl.2.2 _ hL) (hk H locs rls hP hD hS hl)
theorem a_psh {n : Int} {len : Nat} (h : Cx X own cc N) (hd : psh cc pc n len) (hk : AtW X (pc + len) cells slots L (.int (Int32.ofInt n) :: st) w) : AtW X pc cells slots L st w := by
  obtain ⟨p, l, e, R, s, m, args, below, meth, c, Q, c1, c2, B, nL⟩ := X
  obtain ⟨hx, hb, -⟩ := h
  intro H locs rls hP hD hS hl
  rcases hd with ⟨h1, rfl⟩ | ⟨h1, h2, rfl⟩ | ⟨h1, h2, rfl⟩
  · exact lv_iconst hx hb h1 rfl (hk H locs rls hP hD hS hl)
  · exact lv_bipush hx hb h1 h2 (hk H locs rls hP hD hS hl)
  · exact lv_sipush hx hb h1 h2 (hk H locs rls hP hD hS hl)
theorem a_lc {n : Fin 2} {v : Int64} (h : Cx X own cc N) (hd : decode cc pc = .ok (.lconst n, 1)) (hv : Int64.ofNat (n : Nat) = v) (hk : AtW X (pc + 1) cells slots L (.long v :: st) w) : AtW X pc cells slots L st w := by
  obtain ⟨p, l, e, R, s, m, args, below, meth, c, Q, c1, c2, B, nL⟩ := X
  obtain ⟨hx, hb, -⟩ := h
  intro H locs rls hP hD hS hl
  exact lv_lconst hx hb hd hv (hk H locs rls hP hD hS hl)
theorem a_dup {a : Nat} (h : Cx X own cc N) (hd : decode cc pc = .ok (.dup, 1)) (hk : AtW X (pc + 1) cells slots L (.ref a :: .ref a :: st) w) : AtW X pc cells slots L (.ref a :: st) w := by
  obtain ⟨p, l, e, R, s, m, args, below, meth, c, Q, c1, c2, B, nL⟩ := X
  obtain ⟨hx, hb, -⟩ := h
  intro H locs rls hP hD hS hl
  exact lv_dup hx hb hd rfl (hk H locs rls hP hD hS hl)
theorem a_newI {nr : Nat} (h : Cx X own cc N) (hw : Cond.arrayClass .int ∈ lw_tbl) (hd : decode cc pc = .ok (.newarray .int, 2)) (hn : nr ≤ 20000) (hr : Rmc X (cells + 1) (slots + nr)) (hk : ∀ q, AtW X (pc + 2) (cells + 1) (slots + nr) L (.ref q :: st) (w ++ [(q, .inl ((xB X).2.2.2.1 0, nr, .inl (fun _ => 0)))])) : AtW X pc cells slots L (.int (Int32.ofInt nr) :: st) w := by
  obtain ⟨p, l, e, R, s, m, args, below, meth, c, Q, c1, c2, B, nL⟩ := X
  obtain ⟨hx, hb, hml, hN, hown, hT, hK, hbase, -⟩ := h
  intro H locs rls hP hD hS hl
  refine va_newa (atype := .int) (ty := .int) (a0 := (nr, .inl (fun _ => 0))) hx hb (hT _ hw rfl _) rfl hK hP hD hS (fun q hq => Nat.le_trans hbase hq) (fun cA => rfl) (nr_lt hn) (nr_cl hn) (Nat.le_trans (Nat.mul_le_mul_right _ hn) (by decide)) hr.1 hr.2 hd ?_
  intro q cA H1 hK1 hP1 hD1 hS1
  have e1 : cA = B.2.2.2.1 0 := Option.some.inj ((va_nm_int (hK1.2 6 (cA, .int) rfl).2).symm.trans (va_nm_int (hK.2 0 (B.2.2.2.1 0, .int) rfl).2))
  subst e1
  exact hk q H1 locs rls hP1 hD1 hS1 hl
theorem a_newB {nr : Nat} (h : Cx X own cc N) (hw : Cond.arrayClass .byte ∈ lw_tbl) (hd : decode cc pc = .ok (.newarray .byte, 2)) (hn : nr ≤ 20000) (hr : Rmc X (cells + 1) (slots + nr)) (hk : ∀ q, AtW X (pc + 2) (cells + 1) (slots + nr) L (.ref q :: st) (w ++ [(q, .inl ((xB X).2.2.2.1 1, nr, .inl (fun _ => 0)))])) : AtW X pc cells slots L (.int (Int32.ofInt nr) :: st) w := by
  obtain ⟨p, l, e, R, s, m, args, below, meth, c, Q, c1, c2, B, nL⟩ := X
  obtain ⟨hx, hb, hml, hN, hown, hT, hK, hbase, -⟩ := h
  intro H locs rls hP hD hS hl
  refine va_newa (atype := .byte) (ty := .byte) (a0 := (nr, .inl (fun _ => 0))) hx hb (hT _ hw rfl _) rfl hK hP hD hS (fun q hq => Nat.le_trans hbase hq) (fun cA => rfl) (nr_lt hn) (nr_cl hn) (Nat.le_trans (Nat.mul_le_mul_right _ hn) (by decide)) hr.1 hr.2 hd ?_
  intro q cA H1 hK1 hP1 hD1 hS1
  have e1 : cA = B.2.2.2.1 1 := Option.some.inj ((va_nm_byte (hK1.2 6 (cA, .byte) rfl).2).symm.trans (va_nm_byte (hK.2 1 (B.2.2.2.1 1, .byte) rfl).2))
  subst e1
  exact hk q H1 locs rls hP1 hD1 hS1 hl
theorem a_newL {nr : Nat} (h : Cx X own cc N) (hw : Cond.arrayClass .long ∈ lw_tbl) (hd : decode cc pc = .ok (.newarray .long, 2)) (hn : nr ≤ 20000) (hr : Rmc X (cells + 1) (slots + nr)) (hk : ∀ q, AtW X (pc + 2) (cells + 1) (slots + nr) L (.ref q :: st) (w ++ [(q, .inl ((xB X).2.2.2.1 2, nr, .inr (.inl (fun _ => 0))))])) : AtW X pc cells slots L (.int (Int32.ofInt nr) :: st) w := by
  obtain ⟨p, l, e, R, s, m, args, below, meth, c, Q, c1, c2, B, nL⟩ := X
  obtain ⟨hx, hb, hml, hN, hown, hT, hK, hbase, -⟩ := h
  intro H locs rls hP hD hS hl
  refine va_newa (atype := .long) (ty := .long) (a0 := (nr, .inr (.inl (fun _ => 0)))) hx hb (hT _ hw rfl _) rfl hK hP hD hS (fun q hq => Nat.le_trans hbase hq) (fun cA => rfl) (nr_lt hn) (nr_cl hn) (Nat.le_trans (Nat.mul_le_mul_right _ hn) (by decide)) hr.1 hr.2 hd ?_
  intro q cA H1 hK1 hP1 hD1 hS1
  have e1 : cA = B.2.2.2.1 2 := Option.some.inj ((va_nm_long (hK1.2 6 (cA, .long) rfl).2).symm.trans (va_nm_long (hK.2 2 (B.2.2.2.1 2, .long) rfl).2))
  subst e1
  exact hk q H1 locs rls hP1 hD1 hS1 hl
theorem a_newQ {nr ix c0 : Nat} {C : String} (h : Cx X own cc N) (h6 : c0 < 6) (hC : eTy c0 = .object C) (hcl : Cond.classLink own ix C ∈ lw_tbl) (hw : Cond.arrayOver (.object C) ∈ lw_tbl) (hd : decode cc pc = .ok (.anewarray ix, 3)) (hn : nr ≤ 20000) (hr : Rmc X (cells + 1) (slots + nr)) (hk : ∀ q, AtW X (pc + 3) (cells + 1) (slots + nr) L (.ref q :: st) (w ++ [(q, .inl ((xB X).2.2.2.1 c0, nr, .inr (.inr (.inr (.inr (fun _ => none))))))])) : AtW X pc cells slots L (.int (Int32.ofInt nr) :: st) w := by
  obtain ⟨p, l, e, R, s, m, args, below, meth, c, Q, c1, c2, B, nL⟩ := X
  obtain ⟨hx, hb, hml, hN, hown, hT, hK, hbase, -⟩ := h
  intro H locs rls hP hD hS hl
  refine va_newq hx hb hown (hT _ hcl rfl _) (va_AO.of (hT _ hw rfl #[])) hK hP hD hS (fun q hq => Nat.le_trans hbase hq) (nr_lt hn) (nr_cl hn) (by omega) hr.1 hr.2 hd ?_
  intro q cA H1 hK1 hP1 hD1 hS1
  have e1 : cA = B.2.2.2.1 c0 := by
    obtain ⟨-, -, -, -, -, f1⟩ := (hK1.2 6 (cA, .object C) rfl).2
    have hq : (jtys B)[c0]? = some (B.2.2.2.1 c0, .object C) := by simp [jtys, h6, hC]
    obtain ⟨-, -, -, -, -, f2⟩ := (hK.2 c0 _ hq).2
    exact Option.some.inj (f1.symm.trans f2)
  subst e1
  exact hk q H1 locs rls hP1 hD1 hS1 hl
theorem a_putF {K h0 o ix : Nat} {ws lo : va_W} {fs : List Value} {v : Value} (h : Cx X own cc N) (hI : Ini X) (hk : K < 11) (ho : o < jn K) (hl0 : Cond.fieldLink own ix (jT K o).1 (jT K o).2.1 (jT K o).2.2.1 ∈ lw_tbl) (hfin : (jT K o).2.2.2 = true) (hdecl : (jT K o).1 = own) (hn : narrow (jY K o) v = v) (hfit : fits (jY K o) v = true) (hlen : o < fs.length) (hd : decode cc pc = .ok (.putfield ix, 3)) (kk : AtW X (pc + 3) cells slots L st (ws ++ (h0, .inr (K, fs.set o v)) :: lo)) : AtW X pc cells slots L (v :: .ref h0 :: st) (ws ++ (h0, .inr (K, fs)) :: lo) := by
  obtain ⟨p, l, e, R, s, m, args, below, meth, c, Q, c1, c2, B, nL⟩ := X
  obtain ⟨hx, hb, hml, hN, hown, hT, hK, hbase, -⟩ := h
  intro H locs rls hP hD hS hl
  refine va_putF hx hb (C := jR K) (T := jT K) (N := jn K) (Ts := u_ws (jR K) (jT K) (jn K)) (fun w hw => hT w (jW_at K hk w hw) (kw_lay hw) _) (fun _ h => h) (jY K) (jD_at K hk) (jN_at K hk) hown hK hP hD hS ws.length (at_app ws lo _) (jcl_at K hk) o ho (hT _ hl0 rfl _) (fun _ h9 => h9) hfin hI hdecl (jD_at K hk o ho) hn hfit hlen hd (fun H1 locs1 hP1 hD1 hS1 => ?_)
  rw [set_app] at hP1 hD1
  exact kk H1 locs1 rls hP1 hD1 hS1 hl
theorem a_put {K h0 o ix : Nat} {ws lo : va_W} {fs : List Value} {v : Value} (h : Cx X own cc N) (hk : K < 11) (ho : o < jn K) (hl0 : Cond.fieldLink own ix (jT K o).1 (jT K o).2.1 (jT K o).2.2.1 ∈ lw_tbl) (hfin : (jT K o).2.2.2 = false) (hn : narrow (jY K o) v = v) (hfit : fits (jY K o) v = true) (hlen : o < fs.length) (hd : decode cc pc = .ok (.putfield ix, 3)) (kk : AtW X (pc + 3) cells slots L st (ws ++ (h0, .inr (K, fs.set o v)) :: lo)) : AtW X pc cells slots L (v :: .ref h0 :: st) (ws ++ (h0, .inr (K, fs)) :: lo) := by
  obtain ⟨p, l, e, R, s, m, args, below, meth, c, Q, c1, c2, B, nL⟩ := X
  obtain ⟨hx, hb, hml, hN, hown, hT, hK, hbase, -⟩ := h
  intro H locs rls hP hD hS hl
  refine va_put hx hb (C := jR K) (T := jT K) (N := jn K) (Ts := u_ws (jR K) (jT K) (jn K)) (fun w hw => hT w (jW_at K hk w hw) (kw_lay hw) _) (fun _ h => h) (jY K) (jD_at K hk) (jN_at K hk) hown hK hP hD hS ws.length (at_app ws lo _) (jcl_at K hk) o ho (hT _ hl0 rfl _) (fun _ h9 => h9) hfin (jD_at K hk o ho) hn hfit hlen hd (fun H1 locs1 hP1 hD1 hS1 => ?_)
  rw [set_app] at hP1 hD1
  exact kk H1 locs1 rls hP1 hD1 hS1 hl
theorem a_get {K h0 o ix : Nat} {ws lo : va_W} {fs : List Value} {v : Value} (h : Cx X own cc N) (hk : K < 11) (ho : o < jn K) (hl0 : Cond.fieldLink own ix (jT K o).1 (jT K o).2.1 (jT K o).2.2.1 ∈ lw_tbl) (hv : fs[o]? = some v) (hd : decode cc pc = .ok (.getfield ix, 3)) (kk : AtW X (pc + 3) cells slots L (v :: st) (ws ++ (h0, .inr (K, fs)) :: lo)) : AtW X pc cells slots L (.ref h0 :: st) (ws ++ (h0, .inr (K, fs)) :: lo) := by
  obtain ⟨p, l, e, R, s, m, args, below, meth, c, Q, c1, c2, B, nL⟩ := X
  obtain ⟨hx, hb, hml, hN, hown, hT, hK, hbase, -⟩ := h
  intro H locs rls hP hD hS hl
  exact va_get hx hb (C := jR K) (T := jT K) (N := jn K) (Ts := u_ws (jR K) (jT K) (jn K)) (fun w hw => hT w (jW_at K hk w hw) (kw_lay hw) _) (fun _ h => h) hown hK hP ws.length (at_app ws lo _) (jcl_at K hk) o ho (hT _ hl0 rfl _) (fun _ h9 => h9) hv hd (kk H locs rls hP hD hS hl)
theorem a_str {ix j : Nat} {tx : String} (h : Cx X own cc N) (hj : (own, ix, tx, j) ∈ jstr) (hd : decode cc pc = .ok (.ldc ix, 2)) (hk : AtW X (pc + 2) cells slots L (.ref ((xB X).1 90 j) :: st) w) : AtW X pc cells slots L st w := by
  obtain ⟨p, l, e, R, s, m, args, below, meth, c, Q, c1, c2, B, nL⟩ := X
  obtain ⟨hx, hb, hml, hN, hown, hT, hK, hbase, hlocks, hRm, -⟩ := h
  intro H locs rls hP hD hS hl
  exact va_ldcS hx hb hown (hRm.1 _ hj) hd (hk H locs rls hP hD hS hl)
theorem a_obj {ix d : Nat} {a : Nat} (h : Cx X own cc N) (hR : Rm X d) (h1 : Cond.methodLink own ix Lib.objectInit ∈ lw_tbl) (h2 : Cond.instanceMethod Lib.objectInit ∈ lw_tbl) (h3 : Cond.code Lib.objectInit ⟨#[0xb1]⟩ 1 none ∈ lw_tbl) (hd : decode cc pc = .ok (.invokespecial ix, 3)) (hk : AtW X (pc + 3) cells slots L [] w) : AtW X pc cells slots L [.ref a] w := by
  obtain ⟨p, l, e, R, s, m, args, below, meth, c, Q, c1, c2, B, nL⟩ := X
  obtain ⟨hx, hb, hml, hN, hown, hT, hK, hbase, -⟩ := h
  obtain ⟨hR1, hR2, -⟩ := hR
  intro H locs rls hP hD hS hl
  refine W.objInit hx hb hown (hT _ h1 rfl _) (hT _ h2 rfl _) (hT _ h3 rfl _) rfl (by rw [hml]; exact hl.1) rfl hd (by omega) ?_ (hk H locs rls hP hD hS hl)
  show 2 * 0 + 0 + 12 ≤ R.locals
  omega
theorem a_new {K ix : Nat} {fs : List Value} (h : Cx X own cc N) (hk : K < 11) (h1 : Cond.classLink own ix (jR K) ∈ lw_tbl) (h2 : Cond.instantiable (jR K) (jn K) ∈ lw_tbl) (h3 : Cond.initialized (jR K) ∈ lw_tbl) (hfs : ∀ j, j < jn K → defaultValue (jY K j) = vp_V fs j) (hr : Rmc X (cells + 1) (slots + jn K)) (hd : decode cc pc = .ok (.new ix, 3)) (kk : ∀ q, AtW X (pc + 3) (cells + 1) (slots + jn K) L (.ref q :: st) (w ++ [(q, .inr (K, fs))])) : AtW X pc cells slots L st w := by
  obtain ⟨p, l, e, R, s, m, args, below, meth, c, Q, c1, c2, B, nL⟩ := X
  obtain ⟨hx, hb, hml, hN, hown, hT, hK, hbase, -⟩ := h
  intro H locs rls hP hD hS hl
  exact va_new hx hb (C := jR K) (T := jT K) (N := jn K) (Ts := u_ws (jR K) (jT K) (jn K)) (fun w hw => hT w (jW_at K hk w hw) (kw_lay hw) _) (fun _ h => h) (jY K) (jD_at K hk) hown (hT _ h1 rfl _) (hT _ h2 rfl _) (hT _ h3 rfl _) hK hP hD hS (fun q hq => Nat.le_trans hbase hq) (jcl_at K hk) hfs hr.1 hr.2 hd (fun q H1 hP1 hD1 hS1 => kk q H1 locs rls hP1 hD1 hS1 hl)
end A1
-- contracts of constructors
def rmc (d mc ms : Nat) : Room := { frames := d, cells := mc, slots := ms, locals := 64 * d }
def PcN (B : jB) (w : va_W) (av : List Value) : Array Value → State → Prop := fun v U => v = av.toArray ∧ Tb U ∧ va_K B.2.2.1 jcl (jtys B) U ∧ B.2.2.2.2 ≤ U.heap.size ∧ Rom B U ∧ va_P B.2.2.1 jcl w U.heap ∧ va_D (sysA B) w
def QcN (B : jB) (P : va_W → Prop) : Array Value → State → Outcome → State → Prop := fun _ st oc t => oc = .returned none ∧ (∃ w, P w ∧ va_P B.2.2.1 jcl w t.heap ∧ va_D (sysA B) w) ∧ va_F (sysA B) st t
theorem blindN {B : jB} {w : va_W} {av : List Value} : FrameBlind (PcN B w av) := by
  intro a U g mk ⟨h1, h2, h3, h4, h5, h6⟩
  refine ⟨h1, Tb.same (u := U) rfl h2, va_K.moved (u := U) (Vm.Alike.refl U.vm) h3, h4, ?_, h6⟩
  exact Rom.call (s := U) (locs := []) h5 va_S.rf (State.WarmedH.refl U) rfl
def bare (B : jB) : jB := (B.1, [], B.2.2)
theorem clo_bare (B : jB) : clo (bare B) := fun k j h => by cases h
/-- a constructor's contract out of a walk of its body -/
theorem Cn.intro {l : Launch} {d mc ms : Nat} {M : jMT} {B : jB} {w : va_W} {av : List Value} {P : va_W → Prop} {own : String} (hpl : plainFor M.1 = true) (hown : M.1.cls = own) (hini : M.1.name = "<init>") (hlen : (lg_sl av).length ≤ M.2.2.1)
    (body : ∀ X, Cx X own M.2.1 M.2.2.1 → Ini X → Rm X d → Rmc X mc ms → Rtw X M.2.2.2 (QcN B P) mc ms → xB X = bare B → AtW X 0 0 0 (lv_args 0 av) [] w) : Met l M.1 [.code M.1 M.2.1 M.2.2.1 M.2.2.2] (rmc (d + 1) mc ms) (PcN B w av) (QcN B P) mc ms (sysA B) := by
  refine va_MetF (cc := M.2.1) (maxL := M.2.2.1) (ret := M.2.2.2) hpl rfl ?_
  intro p e s m args below meth c s₁ Bd hml hv
  obtain ⟨rfl, hT, hK, hbase, hRm, hP, hD⟩ := hv
  have hown' : s.vm.findClass own = some m.cls := by rw [← hown]; exact findClass_of_methodNamed Bd.named
  have hin : meth.name = "<init>" := ((name_of_methodNamed Bd.named Bd.method).1).trans hini
  have hl := lv_entry av (n := M.2.2.1) hlen
  rw [lg_entry_eq]
  have h := body (p, l, e, rmc (d + 1) mc ms, s, m, av.toArray, below, meth, c, MQ below (QcN B P) av.toArray s mc ms (sysA B), 0, 0, bare B, M.2.2.1) ⟨Bd.exec, Bd.bytes, hml, rfl, hown', hT, hK, hbase, Bd.notSynchronized, hRm, clo_bare B⟩ hin ⟨Nat.le_refl _, Nat.le_refl _, Nat.zero_le _, Nat.zero_le _⟩ ⟨Nat.le_refl _, Nat.le_refl _⟩ ⟨Bd.returns, rfl⟩ rfl
  exact h s.heap [] _ hP hD va_S.rf hl
theorem a_ret {X : jX} {own : String} {cc : ByteArray} {N pc cells slots mc ms : Nat} {L : List (Nat × Value)} {w : va_W} {B : jB} {P : va_W → Prop} (h : Cx X own cc N) (hr : Rtw X none (QcN B P) mc ms) (hB : xB X = bare B) (hc : cells ≤ mc) (hs : slots ≤ ms) (hp : P w) (hd : decode cc pc = .ok (.return_, 1)) : AtW X pc cells slots L [] w := by
  obtain ⟨p, l, e, R, s, m, args, below, meth, c, Q, c1, c2, B', nL⟩ := X
  obtain ⟨hx, hb, hml, hN, hown, hT, hK, hbase, hlocks, -⟩ := h
  obtain ⟨hr, rfl⟩ := hr
  have hB : B' = bare B := hB
  subst hB
  intro H locs rls hP hD hS hl
  refine W.widen hc hs ?_
  exact W.vret hx hb hr (fun t ht _ => ⟨rfl, ⟨w, hp, by rw [ht]; exact hP, hD⟩, hS.F ht⟩) hS.2.2 hd
theorem Rom.re {B B' : jB} {U : State} (h : Rom B U) (h0 : B'.1 90 = B.1 90) (h1 : B'.1 91 = B.1 91) (h3 : B'.1 93 = B.1 93) (h4 : B'.1 94 = B.1 94) (hb : B.2.2.2.2 ≤ B'.2.2.2.2) : Rom B' U := by
  obtain ⟨a1, a2, a3, a4, r, a5, a6⟩ := h
  have hA : ∀ q, sysA B' q → sysA B q := fun q hq => Nat.le_trans hb hq
  refine ⟨fun q hq => ?_, ?_, fun j hj => ?_, a4.narrow hA, r, a5, ?_⟩
  · rw [h0]; exact a1 q hq
  · rw [h0, h3]; exact a2.narrow hA
  · rw [h1]; exact ⟨(a3 j hj).1.narrow hA, (a3 j hj).2.narrow hA⟩
  · have e : vr B'.1 (.inr (.inr (94, r))) = vr B.1 (.inr (.inr (94, r))) := by
      cases r with
      | none => rfl
      | some i => show Value.ref (B'.1 94 i) = Value.ref (B.1 94 i); rw [h4]
    rw [e]
    exact a6.narrow hA
def VI (M : jMT) (n : Nat) : Prop := Cond.code M.1 M.2.1 M.2.2.1 M.2.2.2 ∈ lw_tbl ∧ Cond.instanceMethod M.1 ∈ lw_tbl ∧ Cond.initialized M.1.cls ∈ lw_tbl ∧ M.1.name = "<init>" ∧ (M.1.cls ≠ "java/lang/invoke/MethodHandle" ∧ M.1.cls ≠ "java/lang/invoke/VarHandle") ∧ (parseMethodDescriptor M.1.desc).map (fun d => d.parameters.length) = some n ∧ M.2.2.1 ≤ 45 ∧ M.2.2.2 = none
def σ0 : jM := (fun _ _ _ => 0, fun _ _ _ => 0, fun _ _ _ => none)
theorem okM_0 : okM [] σ0 := ⟨fun _ _ _ => ⟨show (-2147483648 : Int) ≤ 0 by decide, show (0 : Int) < 2147483648 by decide⟩, fun _ _ _ => ⟨show (-9223372036854775808 : Int) ≤ 0 by decide, show (0 : Int) < 9223372036854775808 by decide⟩, fun _ _ _ _ q => by cases q⟩
theorem Rp_nil {al : Nat → Nat → Nat} {r : va_G × (Nat → ClassId) × Nat} {σ : jM} {H : Heap} : Rp (al, [], r) σ H := ⟨fun k q hq => by simp [wld] at hq, fun i j p q hp => by simp [wld] at hp, fun k q hq => by simp [wld] at hq⟩
section A2
variable {X : jX} {own : String} {cc : ByteArray} {N pc cells slots : Nat} {L : List (Nat × Value)} {st : List Value} {w : va_W}
theorem a_callI {M : jMT} {ix n mc ms d b : Nat} {As : List Value} {P : va_W → Prop} {al : Nat → Nat → Nat} {D : List (Nat × Nat)} (h : Cx X own cc N) (hR : Rm X d) (hv : VI M n) (hlk : mlk own ix M) (hal : ∀ k, 90 ≤ k → al k = (xB X).1 k) (hM : ∀ l, Met l M.1 [.code M.1 M.2.1 M.2.2.1 M.2.2.2] (rmc d mc ms) (PcN (al, D, (xB X).2.2) w (.ref b :: As)) (QcN (al, D, (xB X).2.2) P) mc ms (sysA (al, D, (xB X).2.2))) (hAs : As.length = n) (h8 : (st.map fun v => v.category).sum ≤ 8) (hr : Rmc X (cells + mc) (slots + ms)) (hd : decode cc pc = .ok (.invokespecial ix, 3)) (kk : ∀ w', P w' → AtW X (pc + 3) (cells + mc) (slots + ms) L st w') : AtW X pc cells slots L (As.reverse ++ .ref b :: st) w := by
  obtain ⟨p, l, e, R, s, m, args, below, meth, c, Q, c1, c2, B, nL⟩ := X
  obtain ⟨hx, hb, hml, hN, hown, hT, hK, hbase, hlocks, hRm, hC⟩ := h
  obtain ⟨hR1, hR2, -⟩ := hR
  obtain ⟨w1, w2, w4, hnm, hmh, hds, hmx, hrt⟩ := hv
  obtain ⟨hr1, hr2⟩ := hr
  have hM := hM l
  intro H locs rls hP hD hS hl
  have hpre : PreS s H (PcN (al, D, B.2.2) w (.ref b :: As)) (.ref b :: As) := ⟨blindN, fun U hU hW => ⟨rfl, hT.warm hW, va_K.moved hW.alike hK, by rw [hU]; exact Nat.le_trans hbase hS.1, (hRm.call hS hW hU).re (hal 90 (by decide)) (hal 91 (by decide)) (hal 93 (by decide)) (hal 94 (by decide)) (Nat.le_refl _), by rw [hU]; exact hP, hD⟩⟩
  have hlen : ∀ sig, parseMethodDescriptor M.1.desc = some sig → n = sig.parameters.length := fun sig hsig => by rw [hsig] at hds; exact (Option.some.inj hds).symm
  have hws : ∀ w ∈ [Cond.code M.1 M.2.1 M.2.2.1 M.2.2.2], ∀ (a' : Array Value) (U : State), s.WarmedH U.vm → w.before a' U = true := fun w hw a' U hW => by
    rw [List.mem_singleton] at hw
    subst hw
    exact hT.warm hW _ w1 rfl _
  have h8' : 2 * (F0 m pc rls (As.reverse ++ .ref b :: st)).monitorRoom + (st.map fun v => v.category).sum ≤ 8 := by show 2 * 0 + _ ≤ 8; omega
  have hfr : (rmc d mc ms).frames + 1 ≤ R.frames := hR1
  have hlo : 8 + (M.2.2.1 + 11) + (rmc d mc ms).locals ≤ R.locals := by show 8 + (M.2.2.1 + 11) + 64 * d ≤ R.locals; omega
  have hcm : Cond.code M.1 M.2.1 M.2.2.1 none ∈ [Cond.code M.1 M.2.1 M.2.2.1 M.2.2.2] := by rw [hrt]; exact List.mem_singleton.mpr rfl
  have hcw : (Cond.code M.1 M.2.1 M.2.2.1 none).before args s = true := by have := hT _ w1 rfl args; rwa [hrt] at this
  have run : va_Run p l e R s m args below meth c H locs cells slots mc ms (F0 m pc rls (As.reverse ++ .ref b :: st)) st (QcN (al, D, B.2.2) P (Value.ref b :: As).toArray) (sysA B) := by
    rcases hlk with hlk | ⟨host, hlk⟩
    · exact va_runI (Ts := []) (nL := nL) ⟨hx, hb, hml, hown, fun w hw => by cases hw⟩ hM ⟨⟨rfl, rfl, hfr, hlo, hws, hcm, hcw, hT _ w4 rfl _, hmh, hlen, hT _ hlk rfl _⟩, hnm, hT _ w2 rfl _⟩ hpre rfl hAs hl.1 rfl h8' hd ⟨hr1, hr2⟩
    · exact va_runIN (Ts := []) (nL := nL) ⟨hx, hb, hml, hown, fun w hw => by cases hw⟩ hM ⟨⟨⟨rfl, rfl, hfr, hlo, hws, hcm⟩, hcw, hT _ w4 rfl _, hmh, hlen, hT _ hlk rfl _⟩, hnm, hT _ w2 rfl _⟩ hpre rfl hAs hl.1 rfl h8' hd ⟨hr1, hr2⟩
  intro T hT' Xs
  obtain ⟨v, st₀, t, T', L', f0, X', hL, e1, e2, ⟨hv, ⟨w', hp, hP', hD'⟩, hz, hkp⟩, stp⟩ := run T hT' Xs
  cases hv
  rw [f0] at hz hkp
  obtain ⟨t2, a1, b1⟩ := kk w' hp T'.heap (locs ++ L') rls (by rw [e1]; exact hP') hD' ⟨Nat.le_trans hS.1 (by rw [e1]; exact hz), fun q g1 g2 => by rw [e1, hkp q (Nat.lt_of_lt_of_le g1 hS.1) g2]; exact hS.2.1 q g1 g2, fun q hq => by
      rcases List.mem_append.mp hq with g | g
      · exact hS.2.2 q g
      · exact hL q g⟩ hl T' rfl X'
  exact ⟨t2, stp t2 a1, b1⟩
theorem a_len {ix d j : Nat} (h : Cx X own cc N) (hR : Rm X (d + 2)) (hj : j < 7) (hlk : Cond.methodLink own ix M_ST_length.1 ∈ lw_tbl) (h8 : (st.map fun v => v.category).sum ≤ 8) (hr : Rmc X cells slots) (hd : decode cc pc = .ok (.invokevirtual ix, 3)) (kk : AtW X (pc + 3) cells slots L (.int (Int32.ofInt (slen j)) :: st) w) : AtW X pc cells slots L (.ref ((xB X).1 90 j) :: st) w := by
  obtain ⟨p, l, e, R, s, m, args, below, meth, c, Q, c1, c2, B, nL⟩ := X
  obtain ⟨hx, hb, hml, hN, hown, hT, hK, hbase, hlocks, hRm, hC⟩ := h
  obtain ⟨hR1, hR2, -⟩ := hR
  obtain ⟨w1, w2, w3, w4, hmh, hds, hmx⟩ := v_ST_length
  obtain ⟨hr1, hr2⟩ := hr
  intro H locs rls hP hD hS hl
  have ct : Ct (d + 2) M_ST_length [.inr (.inr (90, some j))] σ0 (fun r _ => r = some (.inl (slen j))) := ok_ST_length rfl
  have hM := ct l (B.1, [], B.2.2.1, B.2.2.2.1, H.size) (fun k j h => by cases h) okM_0 (oks_cons (show okr [] 90 j from Or.inr (Or.inl ⟨rfl, hj⟩)) oks_nil)
  have hpre : PreV s H "java/lang/String" (B.1 90 j) (PcX (B.1, [], B.2.2.1, B.2.2.2.1, H.size) [.inr (.inr (90, some j))] σ0) [] := ⟨blindX, vk_recv hRm.2.1 hj hS, fun U hU hW => ⟨rfl, hT.warm hW, va_K.moved hW.alike hK, by rw [hU]; exact Nat.le_refl _, (hRm.call hS hW hU).re rfl rfl rfl rfl (Nat.le_trans hbase hS.1), Rp_nil⟩⟩
  have hlen : ∀ sig, parseMethodDescriptor M_ST_length.1.desc = some sig → 0 = sig.parameters.length := fun sig hsig => by rw [hsig] at hds; exact (Option.some.inj hds).symm
  have hws : ∀ w ∈ [Cond.code M_ST_length.1 M_ST_length.2.1 M_ST_length.2.2.1 M_ST_length.2.2.2], ∀ (a' : Array Value) (U : State), s.WarmedH U.vm → w.before a' U = true := fun w hw a' U hW => by
    rw [List.mem_singleton] at hw
    subst hw
    exact hT.warm hW _ w1 rfl _
  have h8' : 2 * (F0 m pc rls (.ref (B.1 90 j) :: st)).monitorRoom + (st.map fun v => v.category).sum ≤ 8 := by show 2 * 0 + _ ≤ 8; omega
  have hfr : (rmd (d + 2)).frames + 1 ≤ R.frames := hR1
  have hlo : 8 + (M_ST_length.2.2.1 + 11) + (rmd (d + 2)).locals ≤ R.locals := by show 8 + (M_ST_length.2.2.1 + 11) + 64 * (d + 2) ≤ R.locals; omega
  have run : va_Run p l e R s m args below meth c H locs cells slots 0 0 (F0 m pc rls (.ref (B.1 90 j) :: st)) st (QcX (B.1, [], B.2.2.1, B.2.2.2.1, H.size) (fun r _ => r = some (.inl (slen j))) (Value.ref (B.1 90 j) :: []).toArray) (sysA (B.1, [], B.2.2.1, B.2.2.2.1, H.size)) :=
    va_runV (Ts := []) (nL := nL) (As := []) ⟨hx, hb, hml, hown, fun w hw => by cases hw⟩ hM ⟨⟨rfl, rfl, hfr, hlo, hws, List.mem_singleton.mpr rfl, hT _ w1 rfl _, hT _ w4 rfl _, hmh, hlen, hT _ hlk rfl _⟩, hT _ w2 rfl _, hT _ w3 rfl _⟩ hpre rfl rfl hl.1 rfl h8' hd ⟨hr1, hr2⟩
  intro T hT' Xs
  obtain ⟨v, st₀, t, T', L', f0, X', hL, e1, e2, ⟨⟨r, τ, hv, hp, -⟩, hz, hkp⟩, stp⟩ := run T hT' Xs
  cases hv
  subst hp
  rw [f0] at hz hkp
  have kp : ∀ q : Nat, q < H.size → T'.heap[q]? = H[q]? := fun q hq => by rw [e1]; exact hkp q hq (fun z => absurd (show H.size ≤ q from z) (by omega))
  obtain ⟨t2, a1, b1⟩ := kk T'.heap (locs ++ L') rls (hP.kept (fun k x hx => kp x.1 ((hP k x hx).lt))) hD ⟨Nat.le_trans hS.1 (by rw [e1]; exact hz), fun q g1 g2 => by rw [kp q (Nat.lt_of_lt_of_le g1 hS.1)]; exact hS.2.1 q g1 g2, fun q hq => by
      rcases List.mem_append.mp hq with g | g
      · exact hS.2.2 q g
      · exact Nat.le_trans (Nat.le_trans hbase hS.1) (show H.size ≤ q.base from hL q g)⟩ hl T' rfl X'
  exact ⟨t2, stp t2 a1, b1⟩
end A2
