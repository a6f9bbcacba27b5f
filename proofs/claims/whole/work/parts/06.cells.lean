/-! ===== 06 cells: fields, rows ===== -/
def lnk (own : String) (ix K o : Nat) : Prop := Cond.fieldLink own ix (jT K o).1 (jT K o).2.1 (jT K o).2.2.1 ∈ lw_tbl ∨ ∃ host, Cond.fieldLinkNest own ix (jT K o).1 (jT K o).2.1 (jT K o).2.2.1 host ∈ lw_tbl
def c_gI (K o : Nat) (k : jWp) : jWp := fun ls st σ => match st with
  | .inr (.inr (k', some j)) :: st => k' = K ∧ k ls (.inl (σ.1 K j o) :: st) σ
  | _ => False
def c_gL (K o : Nat) (k : jWp) : jWp := fun ls st σ => match st with
  | .inr (.inr (k', some j)) :: st => k' = K ∧ k ls (.inr (.inl (σ.2.1 K j o)) :: st) σ
  | _ => False
def c_gR (K o tk : Nat) (k : jWp) : jWp := fun ls st σ => match st with
  | .inr (.inr (k', some j)) :: st => k' = K ∧ k ls (.inr (.inr (tk, σ.2.2 K j o)) :: st) σ
  | _ => False
def c_gS (K tk : Nat) (f : Nat → Nat) (k : jWp) : jWp := fun ls st σ => match st with
  | .inr (.inr (k', some j)) :: st => k' = K ∧ k ls (.inr (.inr (tk, some (f j))) :: st) σ
  | _ => False
def c_pI (K o : Nat) (k : jWp) : jWp := fun ls st σ => match st with
  | .inl x :: .inr (.inr (k', some j)) :: st => k' = K ∧ k ls st (sI σ K j o x)
  | _ => False
def c_pZ (K o : Nat) (k : jWp) : jWp := fun ls st σ => match st with
  | .inl x :: .inr (.inr (k', some j)) :: st => k' = K ∧ (x = 0 ∨ x = 1) ∧ k ls st (sI σ K j o x)
  | _ => False
def c_pL (K o : Nat) (k : jWp) : jWp := fun ls st σ => match st with
  | .inr (.inl x) :: .inr (.inr (k', some j)) :: st => k' = K ∧ k ls st (sL σ K j o x)
  | _ => False
def c_pR (K o tk : Nat) (k : jWp) : jWp := fun ls st σ => match st with
  | .inr (.inr (k2, some i)) :: .inr (.inr (k', some j)) :: st => k' = K ∧ k2 = tk ∧ k ls st (sR σ K j o (some i))
  | _ => False
def c_iald (K n : Nat) (k : jWp) : jWp := fun ls st σ => match st with
  | .inl i :: .inr (.inr (k', some j)) :: st => k' = K ∧ (0 ≤ i ∧ i < n) ∧ k ls (.inl (σ.1 K j i.toNat) :: st) σ
  | _ => False
def c_ialg (k : jWp) : jWp := fun ls st σ => match st with
  | .inl i :: .inr (.inr (k', some j)) :: st => (eTc k' = 0 ∧ eCl k' = 0 ∧ 11 ≤ k' ∧ k' < 90) ∧ (0 ≤ i ∧ i < jln k' j) ∧ k ls (.inl (σ.1 k' j i.toNat) :: st) σ
  | _ => False
def c_iast (K n : Nat) (k : jWp) : jWp := fun ls st σ => match st with
  | .inl x :: .inl i :: .inr (.inr (k', some j)) :: st => k' = K ∧ (0 ≤ i ∧ i < n) ∧ k ls st (sI σ K j i.toNat x)
  | _ => False
def c_iasg (k : jWp) : jWp := fun ls st σ => match st with
  | .inl x :: .inl i :: .inr (.inr (k', some j)) :: st => (eTc k' = 0 ∧ eCl k' = 0 ∧ 11 ≤ k' ∧ k' < 90) ∧ (0 ≤ i ∧ i < jln k' j) ∧ k ls st (sI σ k' j i.toNat x)
  | _ => False
def c_bald (k : jWp) : jWp := fun ls st σ => match st with
  | .inl i :: .inr (.inr (k', some j)) :: st => k' = 60 ∧ (0 ≤ i ∧ i < jln 60 j) ∧ k ls (.inl (σ.1 60 j i.toNat) :: st) σ
  | _ => False
def c_bast (k : jWp) : jWp := fun ls st σ => match st with
  | .inl x :: .inl i :: .inr (.inr (k', some j)) :: st => k' = 60 ∧ (0 ≤ i ∧ i < jln 60 j) ∧ k ls st (sI σ 60 j i.toNat (jbyt x))
  | _ => False
def c_lald (K n : Nat) (k : jWp) : jWp := fun ls st σ => match st with
  | .inl i :: .inr (.inr (k', some j)) :: st => k' = K ∧ (0 ≤ i ∧ i < n) ∧ k ls (.inr (.inl (σ.2.1 K j i.toNat)) :: st) σ
  | _ => False
def c_last (K n : Nat) (k : jWp) : jWp := fun ls st σ => match st with
  | .inr (.inl x) :: .inl i :: .inr (.inr (k', some j)) :: st => k' = K ∧ (0 ≤ i ∧ i < n) ∧ k ls st (sL σ K j i.toNat x)
  | _ => False
def c_aald (K n tk : Nat) (k : jWp) : jWp := fun ls st σ => match st with
  | .inl i :: .inr (.inr (k', some j)) :: st => k' = K ∧ (0 ≤ i ∧ i < n) ∧ k ls (.inr (.inr (tk, σ.2.2 K j i.toNat)) :: st) σ
  | _ => False
def c_aals (K n tk : Nat) (f : Nat → Nat) (k : jWp) : jWp := fun ls st σ => match st with
  | .inl i :: .inr (.inr (k', some j)) :: st => k' = K ∧ (0 ≤ i ∧ i < n) ∧ k ls (.inr (.inr (tk, some (f i.toNat))) :: st) σ
  | _ => False
def c_aast (K n tk : Nat) (k : jWp) : jWp := fun ls st σ => match st with
  | .inr (.inr (k2, some v)) :: .inl i :: .inr (.inr (k', some j)) :: st => k' = K ∧ k2 = tk ∧ (0 ≤ i ∧ i < n) ∧ k ls st (sR σ K j i.toNat (some v))
  | _ => False
def c_alen (k : jWp) : jWp := fun ls st σ => match st with
  | .inr (.inr (k', some j)) :: st => (11 ≤ k' ∧ k' < 90 ∧ jln k' j < 1000000) ∧ k ls (.inl (jln k' j) :: st) σ
  | _ => False
-- the launch's rows of bounds, its texts
def c_bnd (i : Nat) (k : jWp) : jWp := fun ls st σ => k ls (.inr (.inr (91, some i)) :: st) σ
def c_str (i : Nat) (k : jWp) : jWp := fun ls st σ => k ls (.inr (.inr (90, some i)) :: st) σ
def c_bndl (k : jWp) : jWp := fun ls st σ => match st with
  | .inl i :: .inr (.inr (k', some j)) :: st => k' = 91 ∧ (0 ≤ i ∧ i < jbdl j) ∧ k ls (.inl (jbnd j i.toNat) :: st) σ
  | _ => False
def c_bnln (k : jWp) : jWp := fun ls st σ => match st with
  | .inr (.inr (k', some j)) :: st => k' = 91 ∧ k ls (.inl (jbdl j) :: st) σ
  | _ => False
theorem kw_lay {C : String} {T : u_T} {N : Nat} {w : Cond} (h : w ∈ u_ws C T N) : kw w = true := by
  obtain ⟨k, -, rfl⟩ := List.mem_map.mp h
  unfold u_lay
  split <;> rfl
theorem okr_in {D : List (Nat × Nat)} {k j : Nat} (h : okr D k j) (hk : k < 90) : (k, j) ∈ D := by
  rcases h with h | h | h | h | h | h
  · exact h
  · omega
  · omega
  · omega
  · omega
  · omega
section R3
variable {p : Program} {l : Launch} {e : Env} {R : Room} {s : State} {m : MethodId} {args : Array Value} {below : List Frame} {meth : Method} {c : Code} {H : Heap} {locs : List Loc} {cells slots : Nat} {Q : State → Prop} {cc : ByteArray} {own : String} {B : jB} {σ : jM} {pc ix K o j : Nat} {rls : Array Slot} {rest : List Value}
theorem get_W (hx : p.tables.exec = Jvm.exec) (hb : c.code = cc) (hown : s.vm.findClass own = some m.cls) (hT : Tb s) (hK : va_K B.2.2.1 jcl (jtys B) s) (hP : Rp B σ H) (hk : K < 11) (ho : o < jn K) (hj : (K, j) ∈ B.2.1) (hl : lnk own ix K o) (hd : decode cc pc = .ok (.getfield ix, 3))
    (kk : W p l e R s m args below meth c H locs cells slots Q (F0 m (pc + 3) rls (fv B.1 σ K j o :: rest))) : W p l e R s m args below meth c H locs cells slots Q (F0 m pc rls (.ref (B.1 K j) :: rest)) := by
  obtain ⟨q0, hq, -⟩ := wld_at (σ := σ) hj
  rw [cel_o hk] at hq
  rcases hl with h0 | ⟨host, h0⟩
  · exact va_get hx hb (C := jR K) (T := jT K) (N := jn K) (Ts := u_ws (jR K) (jT K) (jn K)) (fun w hw => hT w (jW_at K hk w hw) (kw_lay hw) _) (fun _ h => h) hown hK hP.1 q0 hq (jcl_at K hk) o ho (hT _ h0 rfl _) (fun _ h9 => h9) (fs_at ho) hd kk
  · exact va_getN hx hb (C := jR K) (T := jT K) (N := jn K) (Ts := u_ws (jR K) (jT K) (jn K)) (fun w hw => hT w (jW_at K hk w hw) (kw_lay hw) _) (fun _ h => h) hown hK hP.1 q0 hq (jcl_at K hk) o ho (hT _ h0 rfl _) (fun _ h9 => h9) (fs_at ho) hd kk
theorem put_W {τ : jM} {v : Value} (hx : p.tables.exec = Jvm.exec) (hb : c.code = cc) (hown : s.vm.findClass own = some m.cls) (hT : Tb s) (hK : va_K B.2.2.1 jcl (jtys B) s) (hP : Rp B σ H) (hS : va_S (sysA B) s.heap H locs) (hk : K < 11) (ho : o < jn K) (hj : (K, j) ∈ B.2.1) (hl : lnk own ix K o) (hd : decode cc pc = .ok (.putfield ix, 3))
    (hfin : (jT K o).2.2.2 = false) (hn : narrow (jY K o) v = v) (hfit : fits (jY K o) v = true) (h1 : fv B.1 τ K j o = v) (h2 : ∀ i, i ≠ o → fv B.1 τ K j i = fv B.1 σ K j i) (h3 : ∀ k' j', (k', j') ≠ (K, j) → cel B τ k' j' = cel B σ k' j')
    (kk : ∀ (H1 : Heap) (locs1 : List Loc), Rp B τ H1 → va_S (sysA B) s.heap H1 locs1 → W p l e R s m args below meth c H1 locs1 cells slots Q (F0 m (pc + 3) rls rest)) : W p l e R s m args below meth c H locs cells slots Q (F0 m pc rls (v :: .ref (B.1 K j) :: rest)) := by
  obtain ⟨q0, hq, hq2⟩ := wld_at (σ := σ) hj
  have hq0 := hq
  rw [cel_o hk] at hq
  have he : (wld B σ).set q0 (B.1 K j, .inr (K, ((List.range (jn K)).map (fv B.1 σ K j)).set o v)) = wld B τ := by
    rw [fs_set (g := fv B.1 τ K j) ho h1 h2, ← cel_o hk]
    exact wld_set hP.2 hq2 h3
  have kk' : ∀ (H1 : Heap) (locs1 : List Loc), va_P B.2.2.1 jcl ((wld B σ).set q0 (B.1 K j, .inr (K, ((List.range (jn K)).map (fv B.1 σ K j)).set o v))) H1 → va_D (sysA B) ((wld B σ).set q0 (B.1 K j, .inr (K, ((List.range (jn K)).map (fv B.1 σ K j)).set o v))) → va_S (sysA B) s.heap H1 locs1 → W p l e R s m args below meth c H1 locs1 cells slots Q (F0 m (pc + 3) rls rest) := fun H1 locs1 a b d => kk H1 locs1 ⟨he ▸ a, he ▸ b⟩ d
  rcases hl with h0 | ⟨host, h0⟩
  · exact va_put hx hb (C := jR K) (T := jT K) (N := jn K) (Ts := u_ws (jR K) (jT K) (jn K)) (fun w hw => hT w (jW_at K hk w hw) (kw_lay hw) _) (fun _ h => h) (jY K) (jD_at K hk) (jN_at K hk) hown hK hP.1 hP.2 hS q0 hq (jcl_at K hk) o ho (hT _ h0 rfl _) (fun _ h9 => h9) hfin (jD_at K hk o ho) hn hfit (by simpa using ho) hd kk'
  · exact va_putN hx hb (C := jR K) (T := jT K) (N := jn K) (Ts := u_ws (jR K) (jT K) (jn K)) (fun w hw => hT w (jW_at K hk w hw) (kw_lay hw) _) (fun _ h => h) (jY K) (jD_at K hk) (jN_at K hk) hown hK hP.1 hP.2 hS q0 hq (jcl_at K hk) o ho (hT _ h0 rfl _) (fun _ h9 => h9) hfin (jD_at K hk o ho) hn hfit (by simpa using ho) hd kk'
theorem in_of {i : Int} {n : Nat} (hi : inR i) (h : 0 ≤ i ∧ i < n) : vp_in (Int32.ofInt i) n := by
  rw [vp_in_iff]
  show 0 ≤ wr i ∧ wr i < n
  rw [wr_id hi.1 hi.2]
  exact h
theorem cl_of {i : Int} (hi : inR i) : (Int32.ofInt i).toNatClampNeg = i.toNat := by
  show (wr i).toNat = i.toNat
  rw [wr_id hi.1 hi.2]
theorem ty_at {k : Nat} (h : eCl k < 6) : (jtys B)[eCl k]? = some (B.2.2.2.1 (eCl k), eTy (eCl k)) := by simp [jtys, h]
end R3
section R4
variable {X : jX} {own : String} {cc : ByteArray} {N pc ix K o n tk : Nat} {k : jWp} {f : Nat → Nat}
theorem r_gI (h : Cx X own cc N) (hk : K < 11) (ho : o < jn K) (ht : ftc K o < 2) (hl0 : lnk own ix K o) (hd : decode cc pc = .ok (.getfield ix, 3)) (hk' : Sn X (pc + 3) k) : Sn X pc (c_gI K o k) := by
  obtain ⟨p, l, e, R, s, m, args, below, meth, c, Q, cells, slots, B, nL⟩ := X
  obtain ⟨hx, hb, -, -, hown, hT, hK, -⟩ := h
  intro ls st σ hw H locs rls hP hS hl hM hs hL
  rcases st with _ | ⟨x | x | ⟨k', _ | j⟩, st⟩ <;> first | exact hw.elim | skip
  obtain ⟨rfl, hw⟩ := hw
  have hj := okr_in (oks_hd hs) (Nat.lt_trans hk (by decide))
  refine get_W hx hb hown hT hK hP hk ho hj hl0 hd ?_
  have hv : fv B.1 σ k' j o = .int (Int32.ofInt (σ.1 k' j o)) := by
    unfold fv
    rcases (show ftc k' o = 0 ∨ ftc k' o = 1 by omega) with h | h <;> rw [h] <;> rfl
  rw [hv]
  exact hk' ls _ σ hw H locs rls hP hS hl hM (oks_cons (hM.1 _ _ _) (oks_tl hs)) hL
theorem r_gL (h : Cx X own cc N) (hk : K < 11) (ho : o < jn K) (ht : ftc K o = 2) (hl0 : lnk own ix K o) (hd : decode cc pc = .ok (.getfield ix, 3)) (hk' : Sn X (pc + 3) k) : Sn X pc (c_gL K o k) := by
  obtain ⟨p, l, e, R, s, m, args, below, meth, c, Q, cells, slots, B, nL⟩ := X
  obtain ⟨hx, hb, -, -, hown, hT, hK, -⟩ := h
  intro ls st σ hw H locs rls hP hS hl hM hs hL
  rcases st with _ | ⟨x | x | ⟨k', _ | j⟩, st⟩ <;> first | exact hw.elim | skip
  obtain ⟨rfl, hw⟩ := hw
  have hj := okr_in (oks_hd hs) (Nat.lt_trans hk (by decide))
  refine get_W hx hb hown hT hK hP hk ho hj hl0 hd ?_
  have hv : fv B.1 σ k' j o = .long (Int64.ofInt (σ.2.1 k' j o)) := by
    unfold fv
    rw [ht]
    rfl
  rw [hv]
  exact hk' ls _ σ hw H locs rls hP hS hl hM (oks_cons (hM.2.1 _ _ _) (oks_tl hs)) hL
theorem r_gR (h : Cx X own cc N) (hk : K < 11) (ho : o < jn K) (ht : ftc K o = 3) (htk : tkd K o = tk) (hl0 : lnk own ix K o) (hd : decode cc pc = .ok (.getfield ix, 3)) (hk' : Sn X (pc + 3) k) : Sn X pc (c_gR K o tk k) := by
  obtain ⟨p, l, e, R, s, m, args, below, meth, c, Q, cells, slots, B, nL⟩ := X
  obtain ⟨hx, hb, -, -, hown, hT, hK, -⟩ := h
  intro ls st σ hw H locs rls hP hS hl hM hs hL
  rcases st with _ | ⟨x | x | ⟨k', _ | j⟩, st⟩ <;> first | exact hw.elim | skip
  obtain ⟨rfl, hw⟩ := hw
  have hj := okr_in (oks_hd hs) (Nat.lt_trans hk (by decide))
  refine get_W hx hb hown hT hK hP hk ho hj hl0 hd ?_
  have hv : fv B.1 σ k' j o = vr B.1 (.inr (.inr (tk, σ.2.2 k' j o))) := by
    unfold fv
    rw [ht, htk]
    cases σ.2.2 k' j o <;> rfl
  rw [hv]
  refine hk' ls _ σ hw H locs rls hP hS hl hM (oks_cons ?_ (oks_tl hs)) hL
  cases hr : σ.2.2 k' j o with
  | none => exact trivial
  | some i => have := hM.2.2 k' j o i hr; rw [htk] at this; exact this
theorem r_gS (h : Cx X own cc N) (hk : K < 11) (ho : o < jn K) (ht : ftc K o = 4) (htk : tkd K o = tk) (hf : ∀ j, sti K o j = f j) (hl0 : lnk own ix K o) (hd : decode cc pc = .ok (.getfield ix, 3)) (hk' : Sn X (pc + 3) k) : Sn X pc (c_gS K tk f k) := by
  obtain ⟨p, l, e, R, s, m, args, below, meth, c, Q, cells, slots, B, nL⟩ := X
  obtain ⟨hx, hb, -, -, hown, hT, hK, -, -, -, hC⟩ := h
  intro ls st σ hw H locs rls hP hS hl hM hs hL
  rcases st with _ | ⟨x | x | ⟨k', _ | j⟩, st⟩ <;> first | exact hw.elim | skip
  obtain ⟨rfl, hw⟩ := hw
  have hj := okr_in (oks_hd hs) (Nat.lt_trans hk (by decide))
  refine get_W hx hb hown hT hK hP hk ho hj hl0 hd ?_
  have hv : fv B.1 σ k' j o = vr B.1 (.inr (.inr (tk, some (f j)))) := by
    unfold fv
    rw [ht, htk, hf]
    rfl
  rw [hv]
  refine hk' ls _ σ hw H locs rls hP hS hl hM (oks_cons ?_ (oks_tl hs)) hL
  rcases hC k' j hj with ⟨-, h4⟩ | ⟨h4, -⟩
  · have := h4 o ht
    rw [htk, hf] at this
    exact this
  · omega
theorem r_pI (h : Cx X own cc N) (hk : K < 11) (ho : o < jn K) (ht : ftc K o = 0) (hty : jY K o = .int) (hfin : (jT K o).2.2.2 = false) (hl0 : lnk own ix K o) (hd : decode cc pc = .ok (.putfield ix, 3)) (hk' : Sn X (pc + 3) k) : Sn X pc (c_pI K o k) := by
  obtain ⟨p, l, e, R, s, m, args, below, meth, c, Q, cells, slots, B, nL⟩ := X
  obtain ⟨hx, hb, -, -, hown, hT, hK, -⟩ := h
  intro ls st σ hw H locs rls hP hS hl hM hs hL
  rcases st with _ | ⟨x | x | x, _ | ⟨y | y | ⟨k', _ | j⟩, st⟩⟩ <;> first | exact hw.elim | skip
  obtain ⟨rfl, hw⟩ := hw
  have hj := okr_in (oks_hd (oks_tl hs)) (Nat.lt_trans hk (by decide))
  refine put_W (τ := sI σ k' j o x) (v := .int (Int32.ofInt x)) hx hb hown hT hK hP hS hk ho hj hl0 hd hfin (by rw [hty]; rfl) (by rw [hty]; rfl) ?_ ?_ (fun _ _ hne => cel_sI hne) (fun H1 locs1 hP1 hS1 => hk' ls _ _ hw H1 locs1 rls hP1 hS1 hl (okM_sI hM (oks_hd hs)) (oks_tl (oks_tl hs)) hL)
  · unfold fv; rw [ht]; simp [sI]
  · intro i hi; unfold fv; simp [sI, hi]
theorem r_pZ (h : Cx X own cc N) (hk : K < 11) (ho : o < jn K) (ht : ftc K o = 1) (hty : jY K o = .boolean) (hfin : (jT K o).2.2.2 = false) (hl0 : lnk own ix K o) (hd : decode cc pc = .ok (.putfield ix, 3)) (hk' : Sn X (pc + 3) k) : Sn X pc (c_pZ K o k) := by
  obtain ⟨p, l, e, R, s, m, args, below, meth, c, Q, cells, slots, B, nL⟩ := X
  obtain ⟨hx, hb, -, -, hown, hT, hK, -⟩ := h
  intro ls st σ hw H locs rls hP hS hl hM hs hL
  rcases st with _ | ⟨x | x | x, _ | ⟨y | y | ⟨k', _ | j⟩, st⟩⟩ <;> first | exact hw.elim | skip
  obtain ⟨rfl, h01, hw⟩ := hw
  have hj := okr_in (oks_hd (oks_tl hs)) (Nat.lt_trans hk (by decide))
  refine put_W (τ := sI σ k' j o x) (v := .int (Int32.ofInt x)) hx hb hown hT hK hP hS hk ho hj hl0 hd hfin (by rw [hty]; rcases h01 with rfl | rfl <;> rfl) (by rw [hty]; rcases h01 with rfl | rfl <;> rfl) ?_ ?_ (fun _ _ hne => cel_sI hne) (fun H1 locs1 hP1 hS1 => hk' ls _ _ hw H1 locs1 rls hP1 hS1 hl (okM_sI hM (oks_hd hs)) (oks_tl (oks_tl hs)) hL)
  · unfold fv; rw [ht]; simp [sI]
  · intro i hi; unfold fv; simp [sI, hi]
theorem r_pL (h : Cx X own cc N) (hk : K < 11) (ho : o < jn K) (ht : ftc K o = 2) (hty : jY K o = .long) (hfin : (jT K o).2.2.2 = false) (hl0 : lnk own ix K o) (hd : decode cc pc = .ok (.putfield ix, 3)) (hk' : Sn X (pc + 3) k) : Sn X pc (c_pL K o k) := by
  obtain ⟨p, l, e, R, s, m, args, below, meth, c, Q, cells, slots, B, nL⟩ := X
  obtain ⟨hx, hb, -, -, hown, hT, hK, -⟩ := h
  intro ls st σ hw H locs rls hP hS hl hM hs hL
  rcases st with _ | ⟨x | x | x, _ | ⟨y | y | ⟨k', _ | j⟩, st⟩⟩ <;> first | exact hw.elim | skip
  obtain ⟨rfl, hw⟩ := hw
  have hj := okr_in (oks_hd (oks_tl hs)) (Nat.lt_trans hk (by decide))
  refine put_W (τ := sL σ k' j o x) (v := .long (Int64.ofInt x)) hx hb hown hT hK hP hS hk ho hj hl0 hd hfin (by rw [hty]; rfl) (by rw [hty]; rfl) ?_ ?_ (fun _ _ hne => cel_sL hne) (fun H1 locs1 hP1 hS1 => hk' ls _ _ hw H1 locs1 rls hP1 hS1 hl (okM_sL hM (oks_hd hs)) (oks_tl (oks_tl hs)) hL)
  · unfold fv; rw [ht]; simp [sL]
  · intro i hi; unfold fv; simp [sL, hi]
theorem r_pR (h : Cx X own cc N) (hk : K < 11) (ho : o < jn K) (ht : ftc K o = 3) (htk : tkd K o = tk) (hty : (∃ C, jY K o = .object C) ∨ ∃ t, jY K o = .array t) (hfin : (jT K o).2.2.2 = false) (hl0 : lnk own ix K o) (hd : decode cc pc = .ok (.putfield ix, 3)) (hk' : Sn X (pc + 3) k) : Sn X pc (c_pR K o tk k) := by
  obtain ⟨p, l, e, R, s, m, args, below, meth, c, Q, cells, slots, B, nL⟩ := X
  obtain ⟨hx, hb, -, -, hown, hT, hK, -⟩ := h
  intro ls st σ hw H locs rls hP hS hl hM hs hL
  rcases st with _ | ⟨x | x | ⟨k2, _ | i⟩, _ | ⟨y | y | ⟨k', _ | j⟩, st⟩⟩ <;> first | exact hw.elim | skip
  obtain ⟨rfl, rfl, hw⟩ := hw
  have hj := okr_in (oks_hd (oks_tl hs)) (Nat.lt_trans hk (by decide))
  have h01 : okr B.2.1 k2 i := oks_hd hs
  refine put_W (τ := sR σ k' j o (some i)) (v := .ref (B.1 k2 i)) hx hb hown hT hK hP hS hk ho hj hl0 hd hfin (by rcases hty with ⟨C, h⟩ | ⟨C, h⟩ <;> rw [h] <;> rfl) (by rcases hty with ⟨C, h⟩ | ⟨C, h⟩ <;> rw [h] <;> rfl) ?_ ?_ (fun _ _ hne => cel_sR hne) (fun H1 locs1 hP1 hS1 => hk' ls _ _ hw H1 locs1 rls hP1 hS1 hl (okM_sR hM (fun i' hi' => by cases hi'; rw [htk]; exact h01)) (oks_tl (oks_tl hs)) hL)
  · unfold fv; rw [ht, htk]; simp [sR, va_rf]
  · intro i hi; unfold fv; simp [sR, hi]
end R4
