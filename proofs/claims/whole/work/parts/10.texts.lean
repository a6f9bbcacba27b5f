/-! ===== 10 texts: the pieces of the String methods; branches to any piece ===== -/
def c_sval (k : jWp) : jWp := fun ls st σ => match st with
  | .inr (.inr (k', some j)) :: st => k' = 90 ∧ k ls (.inr (.inr (93, some j)) :: st) σ
  | _ => False
def c_scod (k : jWp) : jWp := fun ls st σ => match st with
  | .inr (.inr (k', some _)) :: st => k' = 90 ∧ k ls (.inl 0 :: st) σ
  | _ => False
def slen (j : Nat) : Nat := jlen.getD j 0
def sbyt (j o : Nat) : Int := ((jbys.getD j []).getD o 0).toInt
def c_sbal (k : jWp) : jWp := fun ls st σ => match st with
  | .inl i :: .inr (.inr (k', some j)) :: st => k' = 93 ∧ (0 ≤ i ∧ i < slen j) ∧ k ls (.inl (sbyt j i.toNat) :: st) σ
  | _ => False
def c_sbln (k : jWp) : jWp := fun ls st σ => match st with
  | .inr (.inr (k', some j)) :: st => k' = 93 ∧ k ls (.inl (slen j) :: st) σ
  | _ => False
/-- a piece that is never come to -/
def c_stop : jWp := fun _ _ _ => False
def c_fmt (k : jWp) : jWp := fun ls st σ => ∀ r, k ls (.inr (.inr (94, r)) :: st) σ
section R11
variable {X : jX} {own : String} {cc : ByteArray} {N pc ix d n : Nat} {k t : jWp} {M : jMT}
theorem rom90 {B : jB} {j : Nat} (hC : clo B) (h : okr B.2.1 90 j) : j < 7 := by
  rcases h with h | h | h | h | h | h
  · rcases hC 90 j h with ⟨h4, -⟩ | ⟨-, h4, -⟩ <;> omega
  · exact h.2
  · omega
  · omega
  · omega
  · omega
theorem rom93 {B : jB} {j : Nat} (hC : clo B) (h : okr B.2.1 93 j) : j < 7 := by
  rcases h with h | h | h | h | h | h
  · rcases hC 93 j h with ⟨h4, -⟩ | ⟨-, h4, -⟩ <;> omega
  · omega
  · omega
  · omega
  · exact h.2
  · omega
theorem r_sval (h : Cx X own cc N) (w1 : Cond.fieldLink own ix "java/lang/String" "value" "[B" ∈ lw_tbl) (hd : decode cc pc = .ok (.getfield ix, 3)) (hk : Sn X (pc + 3) k) : Sn X pc (c_sval k) := by
  obtain ⟨p, l, e, R, s, m, args, below, meth, c, Q, cells, slots, B, nL⟩ := X
  obtain ⟨hx, hb, -, -, hown, hT, hK, -, -, hRm, hC⟩ := h
  intro ls st σ hw H locs rls hP hS hl hM hs hL
  rcases st with _ | ⟨x | x | ⟨k', _ | j⟩, st⟩ <;> first | exact hw.elim | skip
  obtain ⟨rfl, hw⟩ := hw
  have hj := rom90 hC (oks_hd hs)
  exact vk_getf hx hb (hRm.2.1.1 j hj).2.2.1 hS hown (hT _ w1 rfl _) (fun _ h9 => h9) hd (hk ls _ σ hw H locs rls hP hS hl hM (oks_cons (show okr B.2.1 93 j from Or.inr (Or.inr (Or.inr (Or.inr (Or.inl ⟨rfl, hj⟩))))) (oks_tl hs)) hL)
theorem r_scod (h : Cx X own cc N) (w1 : Cond.fieldLink own ix "java/lang/String" "coder" "B" ∈ lw_tbl) (hd : decode cc pc = .ok (.getfield ix, 3)) (hk : Sn X (pc + 3) k) : Sn X pc (c_scod k) := by
  obtain ⟨p, l, e, R, s, m, args, below, meth, c, Q, cells, slots, B, nL⟩ := X
  obtain ⟨hx, hb, -, -, hown, hT, hK, -, -, hRm, hC⟩ := h
  intro ls st σ hw H locs rls hP hS hl hM hs hL
  rcases st with _ | ⟨x | x | ⟨k', _ | j⟩, st⟩ <;> first | exact hw.elim | skip
  obtain ⟨rfl, hw⟩ := hw
  have hj := rom90 hC (oks_hd hs)
  exact vk_getf hx hb (hRm.2.1.1 j hj).2.1 hS hown (hT _ w1 rfl _) (fun _ h9 => h9) hd (hk ls _ σ hw H locs rls hP hS hl hM (oks_cons (show inR 0 from ⟨by decide, by decide⟩) (oks_tl hs)) hL)
theorem r_gcs (h : Cx X own cc N) (w1 : Cond.fieldLink own ix "java/lang/String" "COMPACT_STRINGS" "Z" ∈ lw_tbl) (hd : decode cc pc = .ok (.getstatic ix, 3)) (hk : Sn X (pc + 3) k) : Sn X pc (c_ic 1 k) := by
  obtain ⟨p, l, e, R, s, m, args, below, meth, c, Q, cells, slots, B, nL⟩ := X
  obtain ⟨hx, hb, -, -, hown, hT, hK, -, -, hRm, hC⟩ := h
  intro ls st σ hw H locs rls hP hS hl hM hs hL
  exact va_gets hx hb hRm.2.2.2.1 hS hown (hT _ w1 rfl _) (fun _ h9 => h9) hd (hk ls _ σ hw H locs rls hP hS hl hM (oks_cons (show inR 1 from ⟨by decide, by decide⟩) hs) hL)
theorem r_stop : Sn X pc c_stop := fun _ _ _ h => h.elim
theorem r_fmt (h : Cx X own cc N) (w1 : Cond.fieldLink own ix "jdk/internal/util/Preconditions" "SIOOBE_FORMATTER" "Ljava/util/function/BiFunction;" ∈ lw_tbl) (hd : decode cc pc = .ok (.getstatic ix, 3)) (hk : Sn X (pc + 3) k) : Sn X pc (c_fmt k) := by
  obtain ⟨p, l, e, R, s, m, args, below, meth, c, Q, cells, slots, B, nL⟩ := X
  obtain ⟨hx, hb, -, -, hown, hT, hK, -, -, hRm, hC⟩ := h
  intro ls st σ hw H locs rls hP hS hl hM hs hL
  obtain ⟨r, h1, h2⟩ := hRm.2.2.2.2
  refine va_gets hx hb h2 hS hown (hT _ w1 rfl _) (fun _ h9 => h9) hd (hk ls _ σ (hw r) H locs rls hP hS hl hM (oks_cons ?_ hs) hL)
  cases r with
  | none => exact trivial
  | some i => exact Or.inr (Or.inr (Or.inr (Or.inr (Or.inr ⟨rfl, h1 i rfl⟩))))
theorem slen_lt (j : Nat) : slen j < 100 := by
  unfold slen jlen
  by_cases h : j < 7
  · rcases (show j = 0 ∨ j = 1 ∨ j = 2 ∨ j = 3 ∨ j = 4 ∨ j = 5 ∨ j = 6 by omega) with rfl | rfl | rfl | rfl | rfl | rfl | rfl <;> decide
  · have h2 : ([2, 3, 4, 6, 3, 4, 1] : List Nat)[j]? = none := List.getElem?_eq_none (by simp; omega)
    rw [List.getD_eq_getElem?_getD, h2]
    decide
theorem r_sbal (h : Cx X own cc N) (hd : decode cc pc = .ok (.baload, 1)) (hk : Sn X (pc + 1) k) : Sn X pc (c_sbal k) := by
  obtain ⟨p, l, e, R, s, m, args, below, meth, c, Q, cells, slots, B, nL⟩ := X
  obtain ⟨hx, hb, -, -, hown, hT, hK, -, -, hRm, hC⟩ := h
  intro ls st σ hw H locs rls hP hS hl hM hs hL
  rcases st with _ | ⟨i | x | x, _ | ⟨y | y | ⟨k', _ | j⟩, st⟩⟩ <;> first | exact hw.elim | skip
  obtain ⟨rfl, hin, hw⟩ := hw
  have hj := rom93 hC (oks_hd (oks_tl hs))
  have hi : inR i := oks_hd hs
  exact va_tb hx hb (hRm.2.1.1 j hj).2.2.2 hS (in_of hi hin) (v := .int (Int32.ofInt (sbyt j i.toNat))) (by rw [cl_of hi]; unfold sbyt; rw [Int32.ofInt_toInt]) hd (hk ls _ σ hw H locs rls hP hS hl hM (oks_cons (show inR (sbyt j i.toNat) from t32_in _) (oks_tl (oks_tl hs))) hL)
theorem r_sbln (h : Cx X own cc N) (hd : decode cc pc = .ok (.arraylength, 1)) (hk : Sn X (pc + 1) k) : Sn X pc (c_sbln k) := by
  obtain ⟨p, l, e, R, s, m, args, below, meth, c, Q, cells, slots, B, nL⟩ := X
  obtain ⟨hx, hb, -, -, hown, hT, hK, -, -, hRm, hC⟩ := h
  intro ls st σ hw H locs rls hP hS hl hM hs hL
  rcases st with _ | ⟨x | x | ⟨k', _ | j⟩, st⟩ <;> first | exact hw.elim | skip
  obtain ⟨rfl, hw⟩ := hw
  have hj := rom93 hC (oks_hd hs)
  have h100 := slen_lt j
  exact va_tlen hx hb (hRm.2.1.1 j hj).2.2.2 hS (v := Int32.ofInt (slen j)) (by rw [Int32.ofInt_eq_ofNat]; rfl) hd (hk ls _ σ hw H locs rls hP hS hl hM (oks_cons (show inR _ from ⟨by omega, by omega⟩) (oks_tl hs)) hL)
/-- a call by a text -/
theorem r_callT (h : Cx X own cc N) (hR : Rm X d) (hm : Cond.code M.1 M.2.1 M.2.2.1 M.2.2.2 ∈ lw_tbl ∧ Cond.instanceMethod M.1 ∈ lw_tbl ∧ Cond.selects "java/lang/String" M.1 M.1 ∈ lw_tbl ∧ Cond.initialized M.1.cls ∈ lw_tbl ∧ (M.1.cls ≠ "java/lang/invoke/MethodHandle" ∧ M.1.cls ≠ "java/lang/invoke/VarHandle") ∧ (parseMethodDescriptor M.1.desc).map (fun d => d.parameters.length) = some n ∧ M.2.2.1 ≤ 45) (hlk : Cond.methodLink own ix M.1 ∈ lw_tbl) (hd : decode cc pc = .ok (.invokevirtual ix, 3)) (hk : Sn X (pc + 3) k) : Sn X pc (c_callV d M 90 n k) := by
  obtain ⟨p, l, e, R, s, m, args, below, meth, c, Q, cells, slots, B, nL⟩ := X
  obtain ⟨hx, hb, hml, hN, hown, hT, hK, hbase, hlocks, hRm, hC⟩ := h
  obtain ⟨hR1, hR2, hR3, hR4⟩ := hR
  obtain ⟨w1, w2, w3, w4, hmh, hds, hmx⟩ := hm
  intro ls st σ hw H locs rls hP hS hl hM hs hL
  obtain ⟨as, rest, has, rfl, hw2⟩ := tkA_spec (n + 1) [] st hw
  clear hw
  rw [List.append_nil] at hw2
  rcases as with _ | ⟨x | x | ⟨k', _ | j⟩, As⟩ <;> first | exact hw2.elim | skip
  obtain ⟨rfl, hv8, hw⟩ := hw2
  have hAs : As.length = n := by simpa using has
  obtain ⟨ho1, ho2⟩ := oks_app hs
  have ho1 := oks_rev ho1
  have hj := rom90 hC (oks_hd ho1)
  have hM1 := hw l B hC hM ho1
  have hrecv := vk_recv hRm.2.1 hj hS
  have hpre : PreV s H "java/lang/String" (B.1 90 j) (PcX B (.inr (.inr (90, some j)) :: As) σ) (As.map (vr B.1)) := ⟨blindX, hrecv, fun U hU hW => ⟨rfl, hT.warm hW, va_K.moved hW.alike hK, by rw [hU]; exact Nat.le_trans hbase hS.1, hRm.call hS hW hU, by rw [hU]; exact hP⟩⟩
  have hlen : ∀ sig, parseMethodDescriptor M.1.desc = some sig → n = sig.parameters.length := fun sig hsig => by rw [hsig] at hds; exact (Option.some.inj hds).symm
  have hws : ∀ w ∈ [Cond.code M.1 M.2.1 M.2.2.1 M.2.2.2], ∀ (a' : Array Value) (U : State), s.WarmedH U.vm → w.before a' U = true := fun w hw a' U hW => by
    rw [List.mem_singleton] at hw
    subst hw
    exact hT.warm hW _ w1 rfl _
  have hstk : (F0 m pc rls (((Sum.inr (Sum.inr (90, some j)) :: As).reverse ++ rest).map (vr B.1))).stack = (As.map (vr B.1)).reverse ++ .ref (B.1 90 j) :: rest.map (vr B.1) := by simp [vr]
  have h8 : 2 * (F0 m pc rls (((Sum.inr (Sum.inr (90, some j)) :: As).reverse ++ rest).map (vr B.1))).monitorRoom + ((rest.map (vr B.1)).map fun v => v.category).sum ≤ 8 := by rw [vsz_sum]; show 2 * 0 + _ ≤ 8; omega
  have hfr : (rmd d).frames + 1 ≤ R.frames := hR1
  have hlo : 8 + (M.2.2.1 + 11) + (rmd d).locals ≤ R.locals := by show 8 + (M.2.2.1 + 11) + 64 * d ≤ R.locals; omega
  have run : va_Run p l e R s m args below meth c H locs cells slots 0 0 (F0 m pc rls (((Sum.inr (Sum.inr (90, some j)) :: As).reverse ++ rest).map (vr B.1))) (rest.map (vr B.1)) (QcX B (fun r τ => k ls (jpush r rest) τ) (Value.ref (B.1 90 j) :: As.map (vr B.1)).toArray) (sysA B) :=
    va_runV (Ts := []) (nL := nL) ⟨hx, hb, hml, hown, fun w hw => by cases hw⟩ hM1 ⟨⟨rfl, rfl, hfr, hlo, hws, List.mem_singleton.mpr rfl, hT _ w1 rfl _, hT _ w4 rfl _, hmh, hlen, hT _ hlk rfl _⟩, hT _ w2 rfl _, hT _ w3 rfl _⟩ hpre rfl (by simpa using hAs) hl.1 hstk h8 hd ⟨hR3, hR4⟩
  refine after_W run hS (fun r τ H1 locs1 hp hM' ho hP' hS' => ?_)
  have := hk ls _ τ hp H1 locs1 rls hP' hS' hl hM' (oks_push ho ho2) hL
  cases r <;> exact this
-- branches to any piece
theorem m_j1 {P : Int → Prop} {tgt : Nat} (h : Sn X pc (c_j1 P (AtX X tgt) k)) (ht : Sn X tgt t) : Sn X pc (c_j1 P t k) := by
  intro ls st σ hw
  refine h ls st σ ?_
  rcases st with _ | ⟨x | x | x, st⟩ <;> first | exact hw.elim | exact ⟨fun z => ht _ _ _ (hw.1 z), hw.2⟩
theorem m_j2 {P : Int → Int → Prop} {tgt : Nat} (h : Sn X pc (c_j2 P (AtX X tgt) k)) (ht : Sn X tgt t) : Sn X pc (c_j2 P t k) := by
  intro ls st σ hw
  refine h ls st σ ?_
  rcases st with _ | ⟨y | y | y, _ | ⟨x | x | x, st⟩⟩ <;> first | exact hw.elim | exact ⟨fun z => ht _ _ _ (hw.1 z), hw.2⟩
theorem m_jn {tgt : Nat} (h : Sn X pc (c_jn (AtX X tgt) k)) (ht : Sn X tgt t) : Sn X pc (c_jn t k) := by
  intro ls st σ hw
  refine h ls st σ ?_
  rcases st with _ | ⟨x | x | ⟨k', _ | j⟩, st⟩ <;> first | exact hw.elim | exact ht _ _ _ hw | exact hw
theorem m_jnn {tgt : Nat} (h : Sn X pc (c_jn k (AtX X tgt))) (ht : Sn X tgt t) : Sn X pc (c_jn k t) := by
  intro ls st σ hw
  refine h ls st σ ?_
  rcases st with _ | ⟨x | x | ⟨k', _ | j⟩, st⟩ <;> first | exact hw.elim | exact ht _ _ _ hw | exact hw
theorem m_goto {tgt : Nat} (h : Sn X pc (AtX X tgt)) (ht : Sn X tgt t) : Sn X pc t := fun ls st σ hw => h ls st σ (ht ls st σ hw)
def SnL (X : jX) : List Nat → List (Int × jWp) → Prop
  | [], [] => True
  | t :: ts, c :: cs => Sn X t c.2 ∧ SnL X ts cs
  | _, _ => False
theorem m_sw0 {x : Int} {lo : Int} {dt : Nat} {ls : jL} {st : List jV} {σ : jM} {dw : jWp} (hd : Sn X dt dw) : ∀ (ts : List Nat) (cs : List (Int × jWp)) (i : Nat), cs.map Prod.fst = (List.range' i ts.length).map (fun j : Nat => lo + j) → SnL X ts cs → c_sw0 cs dw x ls st σ → c_sw0 (swt X lo ts i) (AtX X dt) x ls st σ
  | [], [], i, _, _, h => hd _ _ _ h
  | t :: ts, c :: cs, i, hv, hS, h => by
    simp only [List.length_cons, List.map_cons, List.range'_succ, List.cons.injEq] at hv
    obtain ⟨v, w⟩ := c
    simp only at hv
    obtain ⟨rfl, hv⟩ := hv
    exact ⟨fun z => hS.1 _ _ _ (h.1 z), fun z => m_sw0 hd ts cs (i + 1) hv hS.2 (h.2 z)⟩
  | [], c :: cs, i, _, hS, _ => hS.elim
  | t :: ts, [], i, _, hS, _ => hS.elim
theorem m_tsw {lo : Int} {ts : List Nat} {dt : Nat} {cs : List (Int × jWp)} {dw : jWp} (h : Sn X pc (c_sw (swt X lo ts 0) (AtX X dt))) (hv : cs.map Prod.fst = (List.range' 0 ts.length).map (fun j : Nat => lo + j)) (hS : SnL X ts cs) (hd : Sn X dt dw) : Sn X pc (c_sw cs dw) := by
  intro ls st σ hw
  refine h ls st σ ?_
  rcases st with _ | ⟨x | x | x, st⟩ <;> first | exact hw.elim | exact m_sw0 hd ts cs 0 hv hS hw
theorem m_lsw0 {x : Int} {dt : Nat} {ls : jL} {st : List jV} {σ : jM} {dw : jWp} (hd : Sn X dt dw) : ∀ (ts : List (Int × Nat)) (cs : List (Int × jWp)), cs.map Prod.fst = ts.map Prod.fst → SnL X (ts.map Prod.snd) cs → c_sw0 cs dw x ls st σ → c_sw0 (lsw X ts) (AtX X dt) x ls st σ
  | [], [], _, _, h => hd _ _ _ h
  | t :: ts, c :: cs, hv, hS, h => by
    obtain ⟨v, w⟩ := c
    obtain ⟨v', t'⟩ := t
    simp only [List.map_cons, List.cons.injEq] at hv
    obtain ⟨rfl, hv⟩ := hv
    exact ⟨fun z => hS.1 _ _ _ (h.1 z), fun z => m_lsw0 hd ts cs hv hS.2 (h.2 z)⟩
  | [], c :: cs, _, hS, _ => hS.elim
  | t :: ts, [], _, hS, _ => hS.elim
theorem m_lsw {ts : List (Int × Nat)} {dt : Nat} {cs : List (Int × jWp)} {dw : jWp} (h : Sn X pc (c_sw (lsw X ts) (AtX X dt))) (hv : cs.map Prod.fst = ts.map Prod.fst) (hS : SnL X (ts.map Prod.snd) cs) (hd : Sn X dt dw) : Sn X pc (c_sw cs dw) := by
  intro ls st σ hw
  refine h ls st σ ?_
  rcases st with _ | ⟨x | x | x, st⟩ <;> first | exact hw.elim | exact m_lsw0 hd ts cs hv hS hw
end R11
