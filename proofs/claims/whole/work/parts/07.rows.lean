/-! ===== 07 rows: loads, stores, lengths, copies ===== -/
theorem ev_int {al : Nat → Nat → Nat} {σ : jM} {k j : Nat} (h : eTc k < 2) : ev_ al σ k j = .inl (fun o => Int32.ofInt (σ.1 k j o)) := by
  unfold ev_
  rcases (show eTc k = 0 ∨ eTc k = 1 by omega) with h | h <;> rw [h] <;> rfl
theorem ev_long {al : Nat → Nat → Nat} {σ : jM} {k j : Nat} (h : eTc k = 2) : ev_ al σ k j = .inr (.inl (fun o => Int64.ofInt (σ.2.1 k j o))) := by
  unfold ev_; rw [h]; rfl
theorem ev_dyn {al : Nat → Nat → Nat} {σ : jM} {k j : Nat} (h : eTc k = 3) : ev_ al σ k j = .inr (.inr (.inr (.inr (fun o => (σ.2.2 k j o).map (al (tkd k o)))))) := by
  unfold ev_; rw [h]; rfl
theorem ev_fix {al : Nat → Nat → Nat} {σ : jM} {k j : Nat} (h : eTc k = 4) : ev_ al σ k j = .inr (.inr (.inr (.inr (fun o => some (al (tkd k o) (sti k o j)))))) := by
  unfold ev_; rw [h]; rfl
section R5
variable {p : Program} {l : Launch} {e : Env} {R : Room} {s : State} {m : MethodId} {args : Array Value} {below : List Frame} {meth : Method} {c : Code} {H : Heap} {locs : List Loc} {cells slots : Nat} {Q : State → Prop} {cc : ByteArray} {B : jB} {σ : jM} {pc K j : Nat} {rls : Array Slot} {rest : List Value} {i x : Int}
theorem ild_W (hx : p.tables.exec = Jvm.exec) (hb : c.code = cc) (hK : va_K B.2.2.1 jcl (jtys B) s) (hP : Rp B σ H) (hj : (K, j) ∈ B.2.1) (h11 : 11 ≤ K) (he : eTc K = 0) (hc : eCl K = 0) (hi : inR i) (hin : 0 ≤ i ∧ i < jln K j) (hd : decode cc pc = .ok (.iaload, 1))
    (kk : W p l e R s m args below meth c H locs cells slots Q (F0 m (pc + 1) rls (.int (Int32.ofInt (σ.1 K j i.toNat)) :: rest))) : W p l e R s m args below meth c H locs cells slots Q (F0 m pc rls (.int (Int32.ofInt i) :: .ref (B.1 K j) :: rest)) := by
  obtain ⟨q0, hq, -⟩ := wld_at (σ := σ) hj
  rw [cel_a (by omega), ev_int (by omega), hc] at hq
  refine va_iald hx hb hK hP.1 q0 0 hq (ty_at (k := 23) (by decide)) (in_of hi hin) hd ?_
  rw [cl_of hi]
  exact kk
theorem bld_W (hx : p.tables.exec = Jvm.exec) (hb : c.code = cc) (hK : va_K B.2.2.1 jcl (jtys B) s) (hP : Rp B σ H) (hj : (60, j) ∈ B.2.1) (hi : inR i) (hin : 0 ≤ i ∧ i < jln 60 j) (hd : decode cc pc = .ok (.baload, 1))
    (kk : W p l e R s m args below meth c H locs cells slots Q (F0 m (pc + 1) rls (.int (Int32.ofInt (σ.1 60 j i.toNat)) :: rest))) : W p l e R s m args below meth c H locs cells slots Q (F0 m pc rls (.int (Int32.ofInt i) :: .ref (B.1 60 j) :: rest)) := by
  obtain ⟨q0, hq, -⟩ := wld_at (σ := σ) hj
  rw [cel_a (by decide), ev_int (by decide), show eCl 60 = 1 from rfl] at hq
  refine va_bald hx hb hK hP.1 q0 1 hq (ty_at (k := 60) (by decide)) (in_of hi hin) hd ?_
  rw [cl_of hi]
  exact kk
theorem lld_W (hx : p.tables.exec = Jvm.exec) (hb : c.code = cc) (hK : va_K B.2.2.1 jcl (jtys B) s) (hP : Rp B σ H) (hj : (K, j) ∈ B.2.1) (h11 : 11 ≤ K) (he : eTc K = 2) (hc : eCl K = 2) (hi : inR i) (hin : 0 ≤ i ∧ i < jln K j) (hd : decode cc pc = .ok (.laload, 1))
    (kk : W p l e R s m args below meth c H locs cells slots Q (F0 m (pc + 1) rls (.long (Int64.ofInt (σ.2.1 K j i.toNat)) :: rest))) : W p l e R s m args below meth c H locs cells slots Q (F0 m pc rls (.int (Int32.ofInt i) :: .ref (B.1 K j) :: rest)) := by
  obtain ⟨q0, hq, -⟩ := wld_at (σ := σ) hj
  rw [cel_a (by omega), ev_long he, hc] at hq
  refine va_lald hx hb hK hP.1 q0 2 hq (ty_at (k := 70) (by decide)) (in_of hi hin) hd ?_
  rw [cl_of hi]
  exact kk
theorem ist_W (hx : p.tables.exec = Jvm.exec) (hb : c.code = cc) (hK : va_K B.2.2.1 jcl (jtys B) s) (hP : Rp B σ H) (hS : va_S (sysA B) s.heap H locs) (hj : (K, j) ∈ B.2.1) (h11 : 11 ≤ K) (he : eTc K = 0) (hc : eCl K = 0) (hi : inR i) (hin : 0 ≤ i ∧ i < jln K j) (hd : decode cc pc = .ok (.iastore, 1))
    (kk : ∀ (H1 : Heap) (locs1 : List Loc), Rp B (sI σ K j i.toNat x) H1 → va_S (sysA B) s.heap H1 locs1 → W p l e R s m args below meth c H1 locs1 cells slots Q (F0 m (pc + 1) rls rest)) : W p l e R s m args below meth c H locs cells slots Q (F0 m pc rls (.int (Int32.ofInt x) :: .int (Int32.ofInt i) :: .ref (B.1 K j) :: rest)) := by
  obtain ⟨q0, hq, hq2⟩ := wld_at (σ := σ) hj
  have hw := wld_set (τ := sI σ K j i.toNat x) hP.2 hq2 (fun _ _ hne => cel_sI hne)
  have hf : (fun o => Int32.ofInt ((sI σ K j i.toNat x).1 K j o)) = upd (fun o => Int32.ofInt (σ.1 K j o)) (Int32.ofInt i).toNatClampNeg (Int32.ofInt x) := by
    rw [cl_of hi]
    funext o
    simp only [sI, upd, true_and]
    split <;> rfl
  rw [cel_a (by omega), ev_int (by omega), hc] at hq
  rw [cel_a (by omega), ev_int (by omega), hc, hf] at hw
  exact va_iast hx hb hK hP.1 hP.2 hS q0 0 hq (ty_at (k := 23) (by decide)) (in_of hi hin) hd (fun H1 locs1 a b d => kk H1 locs1 ⟨hw ▸ a, hw ▸ b⟩ d)
theorem bst_W (hx : p.tables.exec = Jvm.exec) (hb : c.code = cc) (hK : va_K B.2.2.1 jcl (jtys B) s) (hP : Rp B σ H) (hS : va_S (sysA B) s.heap H locs) (hj : (60, j) ∈ B.2.1) (hi : inR i) (hin : 0 ≤ i ∧ i < jln 60 j) (hd : decode cc pc = .ok (.bastore, 1))
    (kk : ∀ (H1 : Heap) (locs1 : List Loc), Rp B (sI σ 60 j i.toNat (jbyt x)) H1 → va_S (sysA B) s.heap H1 locs1 → W p l e R s m args below meth c H1 locs1 cells slots Q (F0 m (pc + 1) rls rest)) : W p l e R s m args below meth c H locs cells slots Q (F0 m pc rls (.int (Int32.ofInt x) :: .int (Int32.ofInt i) :: .ref (B.1 60 j) :: rest)) := by
  obtain ⟨q0, hq, hq2⟩ := wld_at (σ := σ) hj
  have hw := wld_set (τ := sI σ 60 j i.toNat (jbyt x)) hP.2 hq2 (fun _ _ hne => cel_sI hne)
  have hf : (fun o => Int32.ofInt ((sI σ 60 j i.toNat (jbyt x)).1 60 j o)) = upd (fun o => Int32.ofInt (σ.1 60 j o)) (Int32.ofInt i).toNatClampNeg (vp_nar .byte (Int32.ofInt x)) := by
    rw [cl_of hi, vp_nar_byte]
    funext o
    simp only [sI, upd, true_and]
    split
    · exact Int32.ofInt_toInt _
    · rfl
  rw [cel_a (by decide), ev_int (by decide), show eCl 60 = 1 from rfl] at hq
  rw [cel_a (by decide), ev_int (by decide), show eCl 60 = 1 from rfl, hf] at hw
  exact va_bast hx hb hK hP.1 hP.2 hS q0 1 hq (ty_at (k := 60) (by decide)) (in_of hi hin) hd (fun H1 locs1 a b d => kk H1 locs1 ⟨hw ▸ a, hw ▸ b⟩ d)
theorem lst_W (hx : p.tables.exec = Jvm.exec) (hb : c.code = cc) (hK : va_K B.2.2.1 jcl (jtys B) s) (hP : Rp B σ H) (hS : va_S (sysA B) s.heap H locs) (hj : (K, j) ∈ B.2.1) (h11 : 11 ≤ K) (he : eTc K = 2) (hc : eCl K = 2) (hi : inR i) (hin : 0 ≤ i ∧ i < jln K j) (hd : decode cc pc = .ok (.lastore, 1))
    (kk : ∀ (H1 : Heap) (locs1 : List Loc), Rp B (sL σ K j i.toNat x) H1 → va_S (sysA B) s.heap H1 locs1 → W p l e R s m args below meth c H1 locs1 cells slots Q (F0 m (pc + 1) rls rest)) : W p l e R s m args below meth c H locs cells slots Q (F0 m pc rls (.long (Int64.ofInt x) :: .int (Int32.ofInt i) :: .ref (B.1 K j) :: rest)) := by
  obtain ⟨q0, hq, hq2⟩ := wld_at (σ := σ) hj
  have hw := wld_set (τ := sL σ K j i.toNat x) hP.2 hq2 (fun _ _ hne => cel_sL hne)
  have hf : (fun o => Int64.ofInt ((sL σ K j i.toNat x).2.1 K j o)) = vp_updL (fun o => Int64.ofInt (σ.2.1 K j o)) (Int32.ofInt i).toNatClampNeg (Int64.ofInt x) := by
    rw [cl_of hi]
    funext o
    simp only [sL, vp_updL, true_and]
    split <;> rfl
  rw [cel_a (by omega), ev_long he, hc] at hq
  rw [cel_a (by omega), ev_long he, hc, hf] at hw
  exact va_last hx hb hK hP.1 hP.2 hS q0 2 hq (ty_at (k := 70) (by decide)) (in_of hi hin) hd (fun H1 locs1 a b d => kk H1 locs1 ⟨hw ▸ a, hw ▸ b⟩ d)
end R5
section R6
variable {X : jX} {own : String} {cc : ByteArray} {N pc ix K o n tk : Nat} {k : jWp} {f : Nat → Nat}
theorem r_iald (h : Cx X own cc N) (h11 : 11 ≤ K) (h90 : K < 90) (he : eTc K = 0) (hc : eCl K = 0) (hn : ∀ j, jln K j = n) (hd : decode cc pc = .ok (.iaload, 1)) (hk' : Sn X (pc + 1) k) : Sn X pc (c_iald K n k) := by
  obtain ⟨p, l, e, R, s, m, args, below, meth, c, Q, cells, slots, B, nL⟩ := X
  obtain ⟨hx, hb, -, -, hown, hT, hK, -⟩ := h
  intro ls st σ hw H locs rls hP hS hl hM hs hL
  rcases st with _ | ⟨i | x | x, _ | ⟨y | y | ⟨k', _ | j⟩, st⟩⟩ <;> first | exact hw.elim | skip
  obtain ⟨rfl, hin, hw⟩ := hw
  have hj := okr_in (oks_hd (oks_tl hs)) h90
  exact ild_W hx hb hK hP hj h11 he hc (oks_hd hs) (by rw [hn]; exact hin) hd (hk' ls _ σ hw H locs rls hP hS hl hM (oks_cons (hM.1 _ _ _) (oks_tl (oks_tl hs))) hL)
theorem r_ialg (h : Cx X own cc N) (hd : decode cc pc = .ok (.iaload, 1)) (hk' : Sn X (pc + 1) k) : Sn X pc (c_ialg k) := by
  obtain ⟨p, l, e, R, s, m, args, below, meth, c, Q, cells, slots, B, nL⟩ := X
  obtain ⟨hx, hb, -, -, hown, hT, hK, -⟩ := h
  intro ls st σ hw H locs rls hP hS hl hM hs hL
  rcases st with _ | ⟨i | x | x, _ | ⟨y | y | ⟨k', _ | j⟩, st⟩⟩ <;> first | exact hw.elim | skip
  obtain ⟨⟨he, hc, h11, h90⟩, hin, hw⟩ := hw
  have hj := okr_in (oks_hd (oks_tl hs)) h90
  exact ild_W hx hb hK hP hj h11 he hc (oks_hd hs) hin hd (hk' ls _ σ hw H locs rls hP hS hl hM (oks_cons (hM.1 _ _ _) (oks_tl (oks_tl hs))) hL)
theorem r_iast (h : Cx X own cc N) (h11 : 11 ≤ K) (h90 : K < 90) (he : eTc K = 0) (hc : eCl K = 0) (hn : ∀ j, jln K j = n) (hd : decode cc pc = .ok (.iastore, 1)) (hk' : Sn X (pc + 1) k) : Sn X pc (c_iast K n k) := by
  obtain ⟨p, l, e, R, s, m, args, below, meth, c, Q, cells, slots, B, nL⟩ := X
  obtain ⟨hx, hb, -, -, hown, hT, hK, -⟩ := h
  intro ls st σ hw H locs rls hP hS hl hM hs hL
  rcases st with _ | ⟨z | z | z, _ | ⟨i | x | x, _ | ⟨y | y | ⟨k', _ | j⟩, st⟩⟩⟩ <;> first | exact hw.elim | skip
  obtain ⟨rfl, hin, hw⟩ := hw
  have hj := okr_in (oks_hd (oks_tl (oks_tl hs))) h90
  exact ist_W hx hb hK hP hS hj h11 he hc (oks_hd (oks_tl hs)) (by rw [hn]; exact hin) hd (fun H1 locs1 hP1 hS1 => hk' ls _ _ hw H1 locs1 rls hP1 hS1 hl (okM_sI hM (oks_hd hs)) (oks_tl (oks_tl (oks_tl hs))) hL)
theorem r_iasg (h : Cx X own cc N) (hd : decode cc pc = .ok (.iastore, 1)) (hk' : Sn X (pc + 1) k) : Sn X pc (c_iasg k) := by
  obtain ⟨p, l, e, R, s, m, args, below, meth, c, Q, cells, slots, B, nL⟩ := X
  obtain ⟨hx, hb, -, -, hown, hT, hK, -⟩ := h
  intro ls st σ hw H locs rls hP hS hl hM hs hL
  rcases st with _ | ⟨z | z | z, _ | ⟨i | x | x, _ | ⟨y | y | ⟨k', _ | j⟩, st⟩⟩⟩ <;> first | exact hw.elim | skip
  obtain ⟨⟨he, hc, h11, h90⟩, hin, hw⟩ := hw
  have hj := okr_in (oks_hd (oks_tl (oks_tl hs))) h90
  exact ist_W hx hb hK hP hS hj h11 he hc (oks_hd (oks_tl hs)) hin hd (fun H1 locs1 hP1 hS1 => hk' ls _ _ hw H1 locs1 rls hP1 hS1 hl (okM_sI hM (oks_hd hs)) (oks_tl (oks_tl (oks_tl hs))) hL)
theorem r_bald (h : Cx X own cc N) (hd : decode cc pc = .ok (.baload, 1)) (hk' : Sn X (pc + 1) k) : Sn X pc (c_bald k) := by
  obtain ⟨p, l, e, R, s, m, args, below, meth, c, Q, cells, slots, B, nL⟩ := X
  obtain ⟨hx, hb, -, -, hown, hT, hK, -⟩ := h
  intro ls st σ hw H locs rls hP hS hl hM hs hL
  rcases st with _ | ⟨i | x | x, _ | ⟨y | y | ⟨k', _ | j⟩, st⟩⟩ <;> first | exact hw.elim | skip
  obtain ⟨rfl, hin, hw⟩ := hw
  have hj := okr_in (oks_hd (oks_tl hs)) (by decide)
  exact bld_W hx hb hK hP hj (oks_hd hs) hin hd (hk' ls _ σ hw H locs rls hP hS hl hM (oks_cons (hM.1 _ _ _) (oks_tl (oks_tl hs))) hL)
theorem r_bast (h : Cx X own cc N) (hd : decode cc pc = .ok (.bastore, 1)) (hk' : Sn X (pc + 1) k) : Sn X pc (c_bast k) := by
  obtain ⟨p, l, e, R, s, m, args, below, meth, c, Q, cells, slots, B, nL⟩ := X
  obtain ⟨hx, hb, -, -, hown, hT, hK, -⟩ := h
  intro ls st σ hw H locs rls hP hS hl hM hs hL
  rcases st with _ | ⟨z | z | z, _ | ⟨i | x | x, _ | ⟨y | y | ⟨k', _ | j⟩, st⟩⟩⟩ <;> first | exact hw.elim | skip
  obtain ⟨rfl, hin, hw⟩ := hw
  have hj := okr_in (oks_hd (oks_tl (oks_tl hs))) (by decide)
  exact bst_W hx hb hK hP hS hj (oks_hd (oks_tl hs)) hin hd (fun H1 locs1 hP1 hS1 => hk' ls _ _ hw H1 locs1 rls hP1 hS1 hl (okM_sI hM (t32_in _)) (oks_tl (oks_tl (oks_tl hs))) hL)
theorem r_lald (h : Cx X own cc N) (h11 : 11 ≤ K) (h90 : K < 90) (he : eTc K = 2) (hc : eCl K = 2) (hn : ∀ j, jln K j = n) (hd : decode cc pc = .ok (.laload, 1)) (hk' : Sn X (pc + 1) k) : Sn X pc (c_lald K n k) := by
  obtain ⟨p, l, e, R, s, m, args, below, meth, c, Q, cells, slots, B, nL⟩ := X
  obtain ⟨hx, hb, -, -, hown, hT, hK, -⟩ := h
  intro ls st σ hw H locs rls hP hS hl hM hs hL
  rcases st with _ | ⟨i | x | x, _ | ⟨y | y | ⟨k', _ | j⟩, st⟩⟩ <;> first | exact hw.elim | skip
  obtain ⟨rfl, hin, hw⟩ := hw
  have hj := okr_in (oks_hd (oks_tl hs)) h90
  exact lld_W hx hb hK hP hj h11 he hc (oks_hd hs) (by rw [hn]; exact hin) hd (hk' ls _ σ hw H locs rls hP hS hl hM (oks_cons (hM.2.1 _ _ _) (oks_tl (oks_tl hs))) hL)
theorem r_last (h : Cx X own cc N) (h11 : 11 ≤ K) (h90 : K < 90) (he : eTc K = 2) (hc : eCl K = 2) (hn : ∀ j, jln K j = n) (hd : decode cc pc = .ok (.lastore, 1)) (hk' : Sn X (pc + 1) k) : Sn X pc (c_last K n k) := by
  obtain ⟨p, l, e, R, s, m, args, below, meth, c, Q, cells, slots, B, nL⟩ := X
  obtain ⟨hx, hb, -, -, hown, hT, hK, -⟩ := h
  intro ls st σ hw H locs rls hP hS hl hM hs hL
  rcases st with _ | ⟨z | z | z, _ | ⟨i | x | x, _ | ⟨y | y | ⟨k', _ | j⟩, st⟩⟩⟩ <;> first | exact hw.elim | skip
  obtain ⟨rfl, hin, hw⟩ := hw
  have hj := okr_in (oks_hd (oks_tl (oks_tl hs))) h90
  exact lst_W hx hb hK hP hS hj h11 he hc (oks_hd (oks_tl hs)) (by rw [hn]; exact hin) hd (fun H1 locs1 hP1 hS1 => hk' ls _ _ hw H1 locs1 rls hP1 hS1 hl (okM_sL hM (oks_hd hs)) (oks_tl (oks_tl (oks_tl hs))) hL)
theorem r_aald {C : String} (h : Cx X own cc N) (h11 : 11 ≤ K) (h90 : K < 90) (he : eTc K = 3) (hc : eCl K < 6) (hC : eTy (eCl K) = .object C) (htk : ∀ o, tkd K o = tk) (hn : ∀ j, jln K j = n) (hd : decode cc pc = .ok (.aaload, 1)) (hk' : Sn X (pc + 1) k) : Sn X pc (c_aald K n tk k) := by
  obtain ⟨p, l, e, R, s, m, args, below, meth, c, Q, cells, slots, B, nL⟩ := X
  obtain ⟨hx, hb, -, -, hown, hT, hK, -⟩ := h
  intro ls st σ hw H locs rls hP hS hl hM hs hL
  rcases st with _ | ⟨i | x | x, _ | ⟨y | y | ⟨k', _ | j⟩, st⟩⟩ <;> first | exact hw.elim | skip
  obtain ⟨rfl, hin, hw⟩ := hw
  have hj := okr_in (oks_hd (oks_tl hs)) h90
  have hi : inR i := oks_hd hs
  obtain ⟨q0, hq, -⟩ := wld_at (σ := σ) hj
  rw [cel_a (by omega), ev_dyn he] at hq
  have ht := ty_at (B := B) hc
  rw [hC] at ht
  refine va_aldq hx hb hK hP.1 q0 (eCl k') hq ht (in_of hi (by rw [hn]; exact hin)) hd ?_
  rw [cl_of hi, htk]
  have hv : va_rf ((σ.2.2 k' j i.toNat).map (B.1 tk)) = vr B.1 (.inr (.inr (tk, σ.2.2 k' j i.toNat))) := by cases σ.2.2 k' j i.toNat <;> rfl
  rw [hv]
  refine hk' ls _ σ hw H locs rls hP hS hl hM (oks_cons ?_ (oks_tl (oks_tl hs))) hL
  cases hr : σ.2.2 k' j i.toNat with
  | none => exact trivial
  | some v => have := hM.2.2 k' j i.toNat v hr; rw [htk] at this; exact this
theorem r_aals {C : String} (h : Cx X own cc N) (h11 : 11 ≤ K) (h90 : K < 90) (he : eTc K = 4) (hc : eCl K < 6) (hC : eTy (eCl K) = .object C) (htk : ∀ o, tkd K o = tk) (hf : ∀ o j, sti K o j = f o) (hn : ∀ j, jln K j = n) (hd : decode cc pc = .ok (.aaload, 1)) (hk' : Sn X (pc + 1) k) : Sn X pc (c_aals K n tk f k) := by
  obtain ⟨p, l, e, R, s, m, args, below, meth, c, Q, cells, slots, B, nL⟩ := X
  obtain ⟨hx, hb, -, -, hown, hT, hK, -, -, -, hCl⟩ := h
  intro ls st σ hw H locs rls hP hS hl hM hs hL
  rcases st with _ | ⟨i | x | x, _ | ⟨y | y | ⟨k', _ | j⟩, st⟩⟩ <;> first | exact hw.elim | skip
  obtain ⟨rfl, hin, hw⟩ := hw
  have hj := okr_in (oks_hd (oks_tl hs)) h90
  have hi : inR i := oks_hd hs
  obtain ⟨q0, hq, -⟩ := wld_at (σ := σ) hj
  rw [cel_a (by omega), ev_fix he] at hq
  have ht := ty_at (B := B) hc
  rw [hC] at ht
  refine va_aldq hx hb hK hP.1 q0 (eCl k') hq ht (in_of hi (by rw [hn]; exact hin)) hd ?_
  rw [cl_of hi, htk, hf]
  refine hk' ls _ σ hw H locs rls hP hS hl hM (oks_cons ?_ (oks_tl (oks_tl hs))) hL
  rcases hCl k' j hj with ⟨h4, -⟩ | ⟨-, -, -, h4⟩
  · omega
  · have := h4 he i.toNat (by rw [hn]; omega)
    rw [htk, hf] at this
    exact this
theorem r_aast (h : Cx X own cc N) (h11 : 11 ≤ K) (h90 : K < 90) (htk11 : tk < 11) (he : eTc K = 3) (hc : eCl K < 6) (hC : eTy (eCl K) = .object (jR tk)) (htk : ∀ o, tkd K o = tk) (hn : ∀ j, jln K j = n) (hd : decode cc pc = .ok (.aastore, 1)) (hk' : Sn X (pc + 1) k) : Sn X pc (c_aast K n tk k) := by
  obtain ⟨p, l, e, R, s, m, args, below, meth, c, Q, cells, slots, B, nL⟩ := X
  obtain ⟨hx, hb, -, -, hown, hT, hK, -⟩ := h
  intro ls st σ hw H locs rls hP hS hl hM hs hL
  rcases st with _ | ⟨z | z | ⟨k2, _ | v⟩, _ | ⟨i | x | x, _ | ⟨y | y | ⟨k', _ | j⟩, st⟩⟩⟩ <;> first | exact hw.elim | skip
  obtain ⟨rfl, rfl, hin, hw⟩ := hw
  have hj := okr_in (oks_hd (oks_tl (oks_tl hs))) h90
  have hv : okr B.2.1 k2 v := oks_hd hs
  have hvj := okr_in hv (Nat.lt_trans htk11 (by decide))
  have hi : inR i := oks_hd (oks_tl hs)
  obtain ⟨q0, hq, hq2⟩ := wld_at (σ := σ) hj
  obtain ⟨q1, hq1, -⟩ := wld_at (σ := σ) hvj
  rw [cel_o htk11] at hq1
  have hset := wld_set (τ := sR σ k' j i.toNat (some v)) hP.2 hq2 (fun _ _ hne => cel_sR hne)
  have hf : (fun o => ((sR σ k' j i.toNat (some v)).2.2 k' j o).map (B.1 (tkd k' o))) = va_up (fun o => (σ.2.2 k' j o).map (B.1 (tkd k' o))) (Int32.ofInt i).toNatClampNeg (some (B.1 k2 v)) := by
    rw [cl_of hi]
    funext o
    simp only [sR, va_up, true_and, htk]
    split <;> rfl
  rw [cel_a (by omega), ev_dyn he] at hq
  rw [cel_a (by omega), ev_dyn he, hf] at hset
  have ht := ty_at (B := B) hc
  rw [hC] at ht
  exact va_astq hx hb hK hP.1 hP.2 hS q0 (eCl k') q1 k2 hq ht hq1 (jcl_at k2 htk11) (in_of hi (by rw [hn]; exact hin)) hd (fun H1 locs1 a b d => hk' ls _ _ hw H1 locs1 rls ⟨hset ▸ a, hset ▸ b⟩ d hl (okM_sR hM (fun i' hi' => by cases hi'; rw [htk]; exact hv)) (oks_tl (oks_tl (oks_tl hs))) hL)
theorem r_alen (h : Cx X own cc N) (hd : decode cc pc = .ok (.arraylength, 1)) (hk' : Sn X (pc + 1) k) : Sn X pc (c_alen k) := by
  obtain ⟨p, l, e, R, s, m, args, below, meth, c, Q, cells, slots, B, nL⟩ := X
  obtain ⟨hx, hb, -, -, hown, hT, hK, -, -, -, hCl⟩ := h
  intro ls st σ hw H locs rls hP hS hl hM hs hL
  rcases st with _ | ⟨x | x | ⟨k', _ | j⟩, st⟩ <;> first | exact hw.elim | skip
  obtain ⟨⟨h11, h90, hlt⟩, hw⟩ := hw
  have hj := okr_in (oks_hd hs) h90
  obtain ⟨q0, hq, -⟩ := wld_at (σ := σ) hj
  rw [cel_a (by omega)] at hq
  rcases hCl k' j hj with ⟨h4, -⟩ | ⟨-, -, h4, -⟩
  · omega
  · exact va_alen hx hb hK hP.1 q0 (eCl k') hq (ty_at h4) (v := Int32.ofInt (jln k' j)) (by show Int32.ofNat _ = _; rw [Int32.ofInt_eq_ofNat]) hd (hk' ls _ σ hw H locs rls hP hS hl hM (oks_cons (show inR _ from ⟨by omega, by omega⟩) (oks_tl hs)) hL)
theorem r_bndl (h : Cx X own cc N) (hd : decode cc pc = .ok (.iaload, 1)) (hk' : Sn X (pc + 1) k) : Sn X pc (c_bndl k) := by
  obtain ⟨p, l, e, R, s, m, args, below, meth, c, Q, cells, slots, B, nL⟩ := X
  obtain ⟨hx, hb, -, -, hown, hT, hK, -, -, hRm, hCl⟩ := h
  intro ls st σ hw H locs rls hP hS hl hM hs hL
  rcases st with _ | ⟨i | x | x, _ | ⟨y | y | ⟨k', _ | j⟩, st⟩⟩ <;> first | exact hw.elim | skip
  obtain ⟨rfl, hin, hw⟩ := hw
  have hj3 : j < 3 ∨ (91, j) ∈ B.2.1 := by
    rcases (show okr B.2.1 91 j from oks_hd (oks_tl hs)) with h | h | h | h | h | h
    · exact Or.inr h
    · omega
    · exact Or.inl h.2
    · omega
    · omega
    · omega
  have hj3 : j < 3 := by
    rcases hj3 with h | h
    · exact h
    · rcases hCl 91 j h with ⟨h4, -⟩ | ⟨-, h4, -⟩ <;> omega
  have hi : inR i := oks_hd hs
  refine va_ti hx hb (hRm.2.2.1 j hj3).2 hS (in_of hi hin) (v := .int (Int32.ofInt (jbnd j i.toNat))) (by rw [cl_of hi]) hd ?_
  refine hk' ls _ σ hw H locs rls hP hS hl hM (oks_cons ?_ (oks_tl (oks_tl hs))) hL
  show inR (jbnd j i.toNat)
  unfold jbnd
  split <;> split <;> exact ⟨by decide, by decide⟩
theorem r_bnln (h : Cx X own cc N) (hd : decode cc pc = .ok (.arraylength, 1)) (hk' : Sn X (pc + 1) k) : Sn X pc (c_bnln k) := by
  obtain ⟨p, l, e, R, s, m, args, below, meth, c, Q, cells, slots, B, nL⟩ := X
  obtain ⟨hx, hb, -, -, hown, hT, hK, -, -, hRm, hCl⟩ := h
  intro ls st σ hw H locs rls hP hS hl hM hs hL
  rcases st with _ | ⟨x | x | ⟨k', _ | j⟩, st⟩ <;> first | exact hw.elim | skip
  obtain ⟨rfl, hw⟩ := hw
  have hj3 : j < 3 ∨ (91, j) ∈ B.2.1 := by
    rcases (show okr B.2.1 91 j from oks_hd hs) with h | h | h | h | h | h
    · exact Or.inr h
    · omega
    · exact Or.inl h.2
    · omega
    · omega
    · omega
  have hj3 : j < 3 := by
    rcases hj3 with h | h
    · exact h
    · rcases hCl 91 j h with ⟨h4, -⟩ | ⟨-, h4, -⟩ <;> omega
  have hb4 : jbdl j ≤ 4 := by unfold jbdl; split <;> decide
  exact va_tlen hx hb (hRm.2.2.1 j hj3).2 hS (v := Int32.ofInt (jbdl j)) (by rw [Int32.ofInt_eq_ofNat]) hd (hk' ls _ σ hw H locs rls hP hS hl hM (oks_cons (show inR _ from ⟨by omega, by omega⟩) (oks_tl hs)) hL)
theorem r_bnd {i : Nat} (h : Cx X own cc N) (hi : i < 3) (hl0 : Cond.fieldLink own ix "LosersBooks$Realm" (jbns i) "[I" ∈ lw_tbl) (hd : decode cc pc = .ok (.getstatic ix, 3)) (hk' : Sn X (pc + 3) k) : Sn X pc (c_bnd i k) := by
  obtain ⟨p, l, e, R, s, m, args, below, meth, c, Q, cells, slots, B, nL⟩ := X
  obtain ⟨hx, hb, -, -, hown, hT, hK, -, -, hRm, hCl⟩ := h
  intro ls st σ hw H locs rls hP hS hl hM hs hL
  exact va_gets hx hb (hRm.2.2.1 i hi).1 hS hown (hT _ hl0 rfl _) (fun _ h9 => h9) hd (hk' ls _ σ hw H locs rls hP hS hl hM (oks_cons (show okr B.2.1 91 i from Or.inr (Or.inr (Or.inl ⟨rfl, hi⟩))) hs) hL)
theorem r_str {i : Nat} {tx : String} (h : Cx X own cc N) (hi : i < 7) (hl0 : (own, ix, tx, i) ∈ jstr) (hd : decode cc pc = .ok (.ldc ix, 2)) (hk' : Sn X (pc + 2) k) : Sn X pc (c_str i k) := by
  obtain ⟨p, l, e, R, s, m, args, below, meth, c, Q, cells, slots, B, nL⟩ := X
  obtain ⟨hx, hb, -, -, hown, hT, hK, -, -, hRm, hCl⟩ := h
  intro ls st σ hw H locs rls hP hS hl hM hs hL
  exact va_ldcS hx hb hown (hRm.1 _ hl0) hd (hk' ls _ σ hw H locs rls hP hS hl hM (oks_cons (show okr B.2.1 90 i from Or.inr (Or.inl ⟨rfl, hi⟩)) hs) hL)
end R6
