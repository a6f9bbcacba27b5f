/-! ===== 05 rules: sums, branches (printed by gen/part05.py) ===== -/
section R2
variable {X : jX} {own : String} {cc : ByteArray} {N pc : Nat} {k t : jWp}
theorem r_add (h : Cx X own cc N) (hd : decode cc pc = .ok (.iadd, 1)) (hk : Sn X (pc + 1) k) : Sn X pc (c_b2 (fun x y => wr (x + y)) k) := by
  obtain ⟨p, l, e, R, s, m, args, below, meth, c, Q, cells, slots, B, nL⟩ := X
  obtain ⟨hx, hb, -⟩ := h
  intro ls st σ hw H locs rls hP hS hl hM hs hL
  rcases st with _ | ⟨y | y | y, _ | ⟨x | x | x, st⟩⟩ <;> first | exact hw.elim | skip
  have ix : inR x := oks_hd (oks_tl hs)
  have iy : inR y := oks_hd hs
  have kk := hk ls _ σ hw H locs rls hP hS hl hM (oks_cons (show inR ((fun x y => wr (x + y)) x y) from wr_in _) (oks_tl (oks_tl hs))) hL
  have he : Int32.ofInt ((fun x y => wr (x + y)) x y) = Int32.ofInt x + Int32.ofInt y := by show Int32.ofInt (wr (x + y)) = _; rw [of_wr, Int32.ofInt_add]
  refine lv_iadd hx hb hd ?_
  rw [← he]
  exact kk
theorem r_sub (h : Cx X own cc N) (hd : decode cc pc = .ok (.isub, 1)) (hk : Sn X (pc + 1) k) : Sn X pc (c_b2 (fun x y => wr (x - y)) k) := by
  obtain ⟨p, l, e, R, s, m, args, below, meth, c, Q, cells, slots, B, nL⟩ := X
  obtain ⟨hx, hb, -⟩ := h
  intro ls st σ hw H locs rls hP hS hl hM hs hL
  rcases st with _ | ⟨y | y | y, _ | ⟨x | x | x, st⟩⟩ <;> first | exact hw.elim | skip
  have ix : inR x := oks_hd (oks_tl hs)
  have iy : inR y := oks_hd hs
  have kk := hk ls _ σ hw H locs rls hP hS hl hM (oks_cons (show inR ((fun x y => wr (x - y)) x y) from wr_in _) (oks_tl (oks_tl hs))) hL
  have he : Int32.ofInt ((fun x y => wr (x - y)) x y) = Int32.ofInt x - Int32.ofInt y := by show Int32.ofInt (wr (x - y)) = _; rw [of_wr, Int32.ofInt_sub]
  refine lv_isub hx hb hd ?_
  rw [← he]
  exact kk
theorem r_mul (h : Cx X own cc N) (hd : decode cc pc = .ok (.imul, 1)) (hk : Sn X (pc + 1) k) : Sn X pc (c_b2 (fun x y => wr (x * y)) k) := by
  obtain ⟨p, l, e, R, s, m, args, below, meth, c, Q, cells, slots, B, nL⟩ := X
  obtain ⟨hx, hb, -⟩ := h
  intro ls st σ hw H locs rls hP hS hl hM hs hL
  rcases st with _ | ⟨y | y | y, _ | ⟨x | x | x, st⟩⟩ <;> first | exact hw.elim | skip
  have ix : inR x := oks_hd (oks_tl hs)
  have iy : inR y := oks_hd hs
  have kk := hk ls _ σ hw H locs rls hP hS hl hM (oks_cons (show inR ((fun x y => wr (x * y)) x y) from wr_in _) (oks_tl (oks_tl hs))) hL
  have he : Int32.ofInt ((fun x y => wr (x * y)) x y) = Int32.ofInt x * Int32.ofInt y := by show Int32.ofInt (wr (x * y)) = _; rw [of_wr, Int32.ofInt_mul]
  refine lv_imul hx hb hd ?_
  rw [← he]
  exact kk
theorem r_and (h : Cx X own cc N) (hd : decode cc pc = .ok (.iand, 1)) (hk : Sn X (pc + 1) k) : Sn X pc (c_b2 jand k) := by
  obtain ⟨p, l, e, R, s, m, args, below, meth, c, Q, cells, slots, B, nL⟩ := X
  obtain ⟨hx, hb, -⟩ := h
  intro ls st σ hw H locs rls hP hS hl hM hs hL
  rcases st with _ | ⟨y | y | y, _ | ⟨x | x | x, st⟩⟩ <;> first | exact hw.elim | skip
  have ix : inR x := oks_hd (oks_tl hs)
  have iy : inR y := oks_hd hs
  have kk := hk ls _ σ hw H locs rls hP hS hl hM (oks_cons (show inR (jand x y) from t32_in _) (oks_tl (oks_tl hs))) hL
  have he : Int32.ofInt (jand x y) = Int32.ofInt x &&& Int32.ofInt y := by unfold jand; exact Int32.ofInt_toInt _
  refine lv_iand hx hb hd ?_
  rw [← he]
  exact kk
theorem r_or (h : Cx X own cc N) (hd : decode cc pc = .ok (.ior, 1)) (hk : Sn X (pc + 1) k) : Sn X pc (c_b2 jor k) := by
  obtain ⟨p, l, e, R, s, m, args, below, meth, c, Q, cells, slots, B, nL⟩ := X
  obtain ⟨hx, hb, -⟩ := h
  intro ls st σ hw H locs rls hP hS hl hM hs hL
  rcases st with _ | ⟨y | y | y, _ | ⟨x | x | x, st⟩⟩ <;> first | exact hw.elim | skip
  have ix : inR x := oks_hd (oks_tl hs)
  have iy : inR y := oks_hd hs
  have kk := hk ls _ σ hw H locs rls hP hS hl hM (oks_cons (show inR (jor x y) from t32_in _) (oks_tl (oks_tl hs))) hL
  have he : Int32.ofInt (jor x y) = Int32.ofInt x ||| Int32.ofInt y := by unfold jor; exact Int32.ofInt_toInt _
  refine lv_ior hx hb hd ?_
  rw [← he]
  exact kk
theorem r_xor (h : Cx X own cc N) (hd : decode cc pc = .ok (.ixor, 1)) (hk : Sn X (pc + 1) k) : Sn X pc (c_b2 jxor k) := by
  obtain ⟨p, l, e, R, s, m, args, below, meth, c, Q, cells, slots, B, nL⟩ := X
  obtain ⟨hx, hb, -⟩ := h
  intro ls st σ hw H locs rls hP hS hl hM hs hL
  rcases st with _ | ⟨y | y | y, _ | ⟨x | x | x, st⟩⟩ <;> first | exact hw.elim | skip
  have ix : inR x := oks_hd (oks_tl hs)
  have iy : inR y := oks_hd hs
  have kk := hk ls _ σ hw H locs rls hP hS hl hM (oks_cons (show inR (jxor x y) from t32_in _) (oks_tl (oks_tl hs))) hL
  have he : Int32.ofInt (jxor x y) = Int32.ofInt x ^^^ Int32.ofInt y := by unfold jxor; exact Int32.ofInt_toInt _
  refine lv_ixor hx hb hd ?_
  rw [← he]
  exact kk
theorem r_shl (h : Cx X own cc N) (hd : decode cc pc = .ok (.ishl, 1)) (hk : Sn X (pc + 1) k) : Sn X pc (c_b2 jshl k) := by
  obtain ⟨p, l, e, R, s, m, args, below, meth, c, Q, cells, slots, B, nL⟩ := X
  obtain ⟨hx, hb, -⟩ := h
  intro ls st σ hw H locs rls hP hS hl hM hs hL
  rcases st with _ | ⟨y | y | y, _ | ⟨x | x | x, st⟩⟩ <;> first | exact hw.elim | skip
  have ix : inR x := oks_hd (oks_tl hs)
  have iy : inR y := oks_hd hs
  have kk := hk ls _ σ hw H locs rls hP hS hl hM (oks_cons (show inR (jshl x y) from t32_in _) (oks_tl (oks_tl hs))) hL
  have he : Int32.ofInt (jshl x y) = Int32.ofInt x <<< (Int32.ofInt y &&& 31) := by unfold jshl; exact Int32.ofInt_toInt _
  refine lv_ishl hx hb hd ?_
  rw [← he]
  exact kk
theorem r_shr (h : Cx X own cc N) (hd : decode cc pc = .ok (.ishr, 1)) (hk : Sn X (pc + 1) k) : Sn X pc (c_b2 jshr k) := by
  obtain ⟨p, l, e, R, s, m, args, below, meth, c, Q, cells, slots, B, nL⟩ := X
  obtain ⟨hx, hb, -⟩ := h
  intro ls st σ hw H locs rls hP hS hl hM hs hL
  rcases st with _ | ⟨y | y | y, _ | ⟨x | x | x, st⟩⟩ <;> first | exact hw.elim | skip
  have ix : inR x := oks_hd (oks_tl hs)
  have iy : inR y := oks_hd hs
  have kk := hk ls _ σ hw H locs rls hP hS hl hM (oks_cons (show inR (jshr x y) from t32_in _) (oks_tl (oks_tl hs))) hL
  have he : Int32.ofInt (jshr x y) = Int32.ofInt x >>> (Int32.ofInt y &&& 31) := by unfold jshr; exact Int32.ofInt_toInt _
  refine lv_ishr hx hb hd ?_
  rw [← he]
  exact kk
theorem r_ush (h : Cx X own cc N) (hd : decode cc pc = .ok (.iushr, 1)) (hk : Sn X (pc + 1) k) : Sn X pc (c_b2 jush k) := by
  obtain ⟨p, l, e, R, s, m, args, below, meth, c, Q, cells, slots, B, nL⟩ := X
  obtain ⟨hx, hb, -⟩ := h
  intro ls st σ hw H locs rls hP hS hl hM hs hL
  rcases st with _ | ⟨y | y | y, _ | ⟨x | x | x, st⟩⟩ <;> first | exact hw.elim | skip
  exact lv_iushr hx hb hd (by unfold jush; exact (Int32.ofInt_toInt _).symm) (hk ls _ σ hw H locs rls hP hS hl hM (oks_cons (show inR (jush x y) from t32_in _) (oks_tl (oks_tl hs))) hL)
theorem r_neg (h : Cx X own cc N) (hd : decode cc pc = .ok (.ineg, 1)) (hk : Sn X (pc + 1) k) : Sn X pc (c_b1 (fun x => wr (-x)) k) := by
  obtain ⟨p, l, e, R, s, m, args, below, meth, c, Q, cells, slots, B, nL⟩ := X
  obtain ⟨hx, hb, -⟩ := h
  intro ls st σ hw H locs rls hP hS hl hM hs hL
  rcases st with _ | ⟨x | x | x, st⟩ <;> first | exact hw.elim | skip
  have kk := hk ls _ σ hw H locs rls hP hS hl hM (oks_cons (wr_in _) (oks_tl hs)) hL
  refine lv_ineg hx hb hd ?_
  rw [show -Int32.ofInt x = Int32.ofInt (wr (-x)) by rw [of_wr, Int32.ofInt_neg]]
  exact kk
theorem r_i2b (h : Cx X own cc N) (hd : decode cc pc = .ok (.i2b, 1)) (hk : Sn X (pc + 1) k) : Sn X pc (c_b1 jbyt k) := by
  obtain ⟨p, l, e, R, s, m, args, below, meth, c, Q, cells, slots, B, nL⟩ := X
  obtain ⟨hx, hb, -⟩ := h
  intro ls st σ hw H locs rls hP hS hl hM hs hL
  rcases st with _ | ⟨x | x | x, st⟩ <;> first | exact hw.elim | skip
  exact lv_i2b hx hb hd (by unfold jbyt; exact (Int32.ofInt_toInt _).symm) (hk ls _ σ hw H locs rls hP hS hl hM (oks_cons (show inR (jbyt x) from t32_in _) (oks_tl hs)) hL)
theorem r_i2c (h : Cx X own cc N) (hd : decode cc pc = .ok (.i2c, 1)) (hk : Sn X (pc + 1) k) : Sn X pc (c_b1 jchr k) := by
  obtain ⟨p, l, e, R, s, m, args, below, meth, c, Q, cells, slots, B, nL⟩ := X
  obtain ⟨hx, hb, -⟩ := h
  intro ls st σ hw H locs rls hP hS hl hM hs hL
  rcases st with _ | ⟨x | x | x, st⟩ <;> first | exact hw.elim | skip
  exact lv_i2c hx hb hd (by unfold jchr; exact (Int32.ofInt_toInt _).symm) (hk ls _ σ hw H locs rls hP hS hl hM (oks_cons (show inR (jchr x) from t32_in _) (oks_tl hs)) hL)
theorem r_div (h : Cx X own cc N) (hd : decode cc pc = .ok (.idiv, 1)) (hk : Sn X (pc + 1) k) : Sn X pc (c_b2n jdiv k) := by
  obtain ⟨p, l, e, R, s, m, args, below, meth, c, Q, cells, slots, B, nL⟩ := X
  obtain ⟨hx, hb, -⟩ := h
  intro ls st σ hw H locs rls hP hS hl hM hs hL
  rcases st with _ | ⟨y | y | y, _ | ⟨x | x | x, st⟩⟩ <;> first | exact hw.elim | skip
  have kk := hk ls _ σ hw.2 H locs rls hP hS hl hM (oks_cons (show inR (jdiv x y) from t32_in _) (oks_tl (oks_tl hs))) hL
  refine lv_idiv hx hb hd (fun z => hw.1 ((of_eq (oks_hd hs : inR y) ⟨by decide, by decide⟩).mp z)) ?_
  rw [show Int32.ofInt x / Int32.ofInt y = Int32.ofInt (jdiv x y) from (Int32.ofInt_toInt _).symm]
  exact kk
theorem r_rem (h : Cx X own cc N) (hd : decode cc pc = .ok (.irem, 1)) (hk : Sn X (pc + 1) k) : Sn X pc (c_b2n jrem k) := by
  obtain ⟨p, l, e, R, s, m, args, below, meth, c, Q, cells, slots, B, nL⟩ := X
  obtain ⟨hx, hb, -⟩ := h
  intro ls st σ hw H locs rls hP hS hl hM hs hL
  rcases st with _ | ⟨y | y | y, _ | ⟨x | x | x, st⟩⟩ <;> first | exact hw.elim | skip
  have kk := hk ls _ σ hw.2 H locs rls hP hS hl hM (oks_cons (show inR (jrem x y) from t32_in _) (oks_tl (oks_tl hs))) hL
  refine lv_irem hx hb hd (fun z => hw.1 ((of_eq (oks_hd hs : inR y) ⟨by decide, by decide⟩).mp z)) ?_
  rw [show Int32.ofInt x - Int32.ofInt x / Int32.ofInt y * Int32.ofInt y = Int32.ofInt (jrem x y) from (Int32.ofInt_toInt _).symm]
  exact kk
theorem r_ladd (h : Cx X own cc N) (hd : decode cc pc = .ok (.ladd, 1)) (hk : Sn X (pc + 1) k) : Sn X pc (c_d2 (fun x y => wl (x + y)) k) := by
  obtain ⟨p, l, e, R, s, m, args, below, meth, c, Q, cells, slots, B, nL⟩ := X
  obtain ⟨hx, hb, -⟩ := h
  intro ls st σ hw H locs rls hP hS hl hM hs hL
  rcases st with _ | ⟨y | y | y, _ | ⟨x | x | x, st⟩⟩ <;> first | exact hw.elim | skip
  have kk := hk ls _ σ hw H locs rls hP hS hl hM (oks_cons (wl_in _) (oks_tl (oks_tl hs))) hL
  refine lv_ladd hx hb hd ?_
  rw [show Int64.ofInt x + Int64.ofInt y = Int64.ofInt (wl (x + y)) by rw [of_wl, Int64.ofInt_add]]
  exact kk
theorem r_lsub (h : Cx X own cc N) (hd : decode cc pc = .ok (.lsub, 1)) (hk : Sn X (pc + 1) k) : Sn X pc (c_d2 (fun x y => wl (x - y)) k) := by
  obtain ⟨p, l, e, R, s, m, args, below, meth, c, Q, cells, slots, B, nL⟩ := X
  obtain ⟨hx, hb, -⟩ := h
  intro ls st σ hw H locs rls hP hS hl hM hs hL
  rcases st with _ | ⟨y | y | y, _ | ⟨x | x | x, st⟩⟩ <;> first | exact hw.elim | skip
  have kk := hk ls _ σ hw H locs rls hP hS hl hM (oks_cons (wl_in _) (oks_tl (oks_tl hs))) hL
  refine lv_lsub hx hb hd ?_
  rw [show Int64.ofInt x - Int64.ofInt y = Int64.ofInt (wl (x - y)) by rw [of_wl, Int64.ofInt_sub]]
  exact kk
theorem r_lmul (h : Cx X own cc N) (hd : decode cc pc = .ok (.lmul, 1)) (hk : Sn X (pc + 1) k) : Sn X pc (c_d2 (fun x y => wl (x * y)) k) := by
  obtain ⟨p, l, e, R, s, m, args, below, meth, c, Q, cells, slots, B, nL⟩ := X
  obtain ⟨hx, hb, -⟩ := h
  intro ls st σ hw H locs rls hP hS hl hM hs hL
  rcases st with _ | ⟨y | y | y, _ | ⟨x | x | x, st⟩⟩ <;> first | exact hw.elim | skip
  have kk := hk ls _ σ hw H locs rls hP hS hl hM (oks_cons (wl_in _) (oks_tl (oks_tl hs))) hL
  refine lv_lmul hx hb hd ?_
  rw [show Int64.ofInt x * Int64.ofInt y = Int64.ofInt (wl (x * y)) by rw [of_wl, Int64.ofInt_mul]]
  exact kk
theorem r_land (h : Cx X own cc N) (hd : decode cc pc = .ok (.land, 1)) (hk : Sn X (pc + 1) k) : Sn X pc (c_d2 lnd k) := by
  obtain ⟨p, l, e, R, s, m, args, below, meth, c, Q, cells, slots, B, nL⟩ := X
  obtain ⟨hx, hb, -⟩ := h
  intro ls st σ hw H locs rls hP hS hl hM hs hL
  rcases st with _ | ⟨y | y | y, _ | ⟨x | x | x, st⟩⟩ <;> first | exact hw.elim | skip
  have kk := hk ls _ σ hw H locs rls hP hS hl hM (oks_cons (show inL (lnd x y) from t64_in _) (oks_tl (oks_tl hs))) hL
  refine lv_land hx hb hd ?_
  rw [show Int64.ofInt x &&& Int64.ofInt y = Int64.ofInt (lnd x y) from (Int64.ofInt_toInt _).symm]
  exact kk
theorem r_lor (h : Cx X own cc N) (hd : decode cc pc = .ok (.lor, 1)) (hk : Sn X (pc + 1) k) : Sn X pc (c_d2 lro k) := by
  obtain ⟨p, l, e, R, s, m, args, below, meth, c, Q, cells, slots, B, nL⟩ := X
  obtain ⟨hx, hb, -⟩ := h
  intro ls st σ hw H locs rls hP hS hl hM hs hL
  rcases st with _ | ⟨y | y | y, _ | ⟨x | x | x, st⟩⟩ <;> first | exact hw.elim | skip
  have kk := hk ls _ σ hw H locs rls hP hS hl hM (oks_cons (show inL (lro x y) from t64_in _) (oks_tl (oks_tl hs))) hL
  refine lv_lor hx hb hd ?_
  rw [show Int64.ofInt x ||| Int64.ofInt y = Int64.ofInt (lro x y) from (Int64.ofInt_toInt _).symm]
  exact kk
theorem r_ldiv (h : Cx X own cc N) (hd : decode cc pc = .ok (.ldiv, 1)) (hk : Sn X (pc + 1) k) : Sn X pc (c_d2n ldv k) := by
  obtain ⟨p, l, e, R, s, m, args, below, meth, c, Q, cells, slots, B, nL⟩ := X
  obtain ⟨hx, hb, -⟩ := h
  intro ls st σ hw H locs rls hP hS hl hM hs hL
  rcases st with _ | ⟨y | y | y, _ | ⟨x | x | x, st⟩⟩ <;> first | exact hw.elim | skip
  have kk := hk ls _ σ hw.2 H locs rls hP hS hl hM (oks_cons (show inL (ldv x y) from t64_in _) (oks_tl (oks_tl hs))) hL
  refine lv_ldiv hx hb hd (fun z => hw.1 ((of_eq64 (oks_hd hs : inL y) ⟨by decide, by decide⟩).mp z)) ?_
  rw [show Int64.ofInt x / Int64.ofInt y = Int64.ofInt (ldv x y) from (Int64.ofInt_toInt _).symm]
  exact kk
theorem r_lrem (h : Cx X own cc N) (hd : decode cc pc = .ok (.lrem, 1)) (hk : Sn X (pc + 1) k) : Sn X pc (c_d2n lrm k) := by
  obtain ⟨p, l, e, R, s, m, args, below, meth, c, Q, cells, slots, B, nL⟩ := X
  obtain ⟨hx, hb, -⟩ := h
  intro ls st σ hw H locs rls hP hS hl hM hs hL
  rcases st with _ | ⟨y | y | y, _ | ⟨x | x | x, st⟩⟩ <;> first | exact hw.elim | skip
  have kk := hk ls _ σ hw.2 H locs rls hP hS hl hM (oks_cons (show inL (lrm x y) from t64_in _) (oks_tl (oks_tl hs))) hL
  refine lv_lrem hx hb hd (fun z => hw.1 ((of_eq64 (oks_hd hs : inL y) ⟨by decide, by decide⟩).mp z)) ?_
  rw [show Int64.ofInt x - Int64.ofInt x / Int64.ofInt y * Int64.ofInt y = Int64.ofInt (lrm x y) from (Int64.ofInt_toInt _).symm]
  exact kk
theorem r_lush (h : Cx X own cc N) (hd : decode cc pc = .ok (.lushr, 1)) (hk : Sn X (pc + 1) k) : Sn X pc (c_dsh lush k) := by
  obtain ⟨p, l, e, R, s, m, args, below, meth, c, Q, cells, slots, B, nL⟩ := X
  obtain ⟨hx, hb, -⟩ := h
  intro ls st σ hw H locs rls hP hS hl hM hs hL
  rcases st with _ | ⟨y | y | y, _ | ⟨x | x | x, st⟩⟩ <;> first | exact hw.elim | skip
  exact lv_lushr hx hb hd (by unfold lush; exact (Int64.ofInt_toInt _).symm) (hk ls _ σ hw H locs rls hP hS hl hM (oks_cons (show inL (lush x y) from t64_in _) (oks_tl (oks_tl hs))) hL)
theorem r_lshl (h : Cx X own cc N) (hd : decode cc pc = .ok (.lshl, 1)) (hk : Sn X (pc + 1) k) : Sn X pc (c_dsh lshl' k) := by
  obtain ⟨p, l, e, R, s, m, args, below, meth, c, Q, cells, slots, B, nL⟩ := X
  obtain ⟨hx, hb, -⟩ := h
  intro ls st σ hw H locs rls hP hS hl hM hs hL
  rcases st with _ | ⟨y | y | y, _ | ⟨x | x | x, st⟩⟩ <;> first | exact hw.elim | skip
  exact lv_lshl hx hb hd (by unfold lshl'; exact (Int64.ofInt_toInt _).symm) (hk ls _ σ hw H locs rls hP hS hl hM (oks_cons (show inL (lshl' x y) from t64_in _) (oks_tl (oks_tl hs))) hL)
theorem r_i2l (h : Cx X own cc N) (hd : decode cc pc = .ok (.i2l, 1)) (hk : Sn X (pc + 1) k) : Sn X pc (c_i2l k) := by
  obtain ⟨p, l, e, R, s, m, args, below, meth, c, Q, cells, slots, B, nL⟩ := X
  obtain ⟨hx, hb, -⟩ := h
  intro ls st σ hw H locs rls hP hS hl hM hs hL
  rcases st with _ | ⟨x | x | x, st⟩ <;> first | exact hw.elim | skip
  have ix : inR x := oks_hd hs
  exact lv_i2l hx hb hd (v := Int64.ofInt x) (by rw [← Int64.ofInt_int32ToInt]; show Int64.ofInt (wr x) = _; rw [wr_id ix.1 ix.2]) (hk ls _ σ hw H locs rls hP hS hl hM (oks_cons (show inL x from ⟨by omega, by omega⟩) (oks_tl hs)) hL)
theorem r_l2i (h : Cx X own cc N) (hd : decode cc pc = .ok (.l2i, 1)) (hk : Sn X (pc + 1) k) : Sn X pc (c_l2i k) := by
  obtain ⟨p, l, e, R, s, m, args, below, meth, c, Q, cells, slots, B, nL⟩ := X
  obtain ⟨hx, hb, -⟩ := h
  intro ls st σ hw H locs rls hP hS hl hM hs hL
  rcases st with _ | ⟨x | x | x, st⟩ <;> first | exact hw.elim | skip
  have ix : inL x := oks_hd hs
  exact lv_l2i hx hb hd (v := Int32.ofInt (wr x)) (by rw [of_wr, ← Int32.ofInt_int64ToInt]; show Int32.ofInt (wl x) = _; rw [wl_id ix.1 ix.2]) (hk ls _ σ hw H locs rls hP hS hl hM (oks_cons (wr_in _) (oks_tl hs)) hL)
theorem lcm3_in (x y : Int) : inR (lcm3 x y) := by
  unfold lcm3
  split
  · exact ⟨by decide, by decide⟩
  · split <;> exact ⟨by decide, by decide⟩
theorem r_lcm (h : Cx X own cc N) (hd : decode cc pc = .ok (.lcmp, 1)) (hk : Sn X (pc + 1) k) : Sn X pc (c_lcm k) := by
  obtain ⟨p, l, e, R, s, m, args, below, meth, c, Q, cells, slots, B, nL⟩ := X
  obtain ⟨hx, hb, -⟩ := h
  intro ls st σ hw H locs rls hP hS hl hM hs hL
  rcases st with _ | ⟨y | y | y, _ | ⟨x | x | x, st⟩⟩ <;> first | exact hw.elim | skip
  have ix : inL x := oks_hd (oks_tl hs)
  have iy : inL y := oks_hd hs
  have kk := hk ls _ σ hw H locs rls hP hS hl hM (oks_cons (show inR (lcm3 x y) from lcm3_in x y) (oks_tl (oks_tl hs))) hL
  refine W.lcmp hx hb hd ?_
  have he : lg_cmp (Int64.ofInt x) (Int64.ofInt y) = Int32.ofInt (lcm3 x y) := by
    unfold lg_cmp lcm3
    by_cases h1 : y < x
    · rw [if_pos ((of_lt64 iy ix).mpr h1), if_pos h1]; rfl
    · rw [if_neg (fun z => h1 ((of_lt64 iy ix).mp z)), if_neg h1]
      by_cases h2 : x = y
      · rw [if_pos ((of_eq64 ix iy).mpr h2), if_pos h2]; rfl
      · rw [if_neg (fun z => h2 ((of_eq64 ix iy).mp z)), if_neg h2]; rfl
  rw [he]
  exact kk
theorem r_dup (h : Cx X own cc N) (hd : decode cc pc = .ok (.dup, 1)) (hk : Sn X (pc + 1) k) : Sn X pc (c_dup k) := by
  obtain ⟨p, l, e, R, s, m, args, below, meth, c, Q, cells, slots, B, nL⟩ := X
  obtain ⟨hx, hb, -⟩ := h
  intro ls st σ hw H locs rls hP hS hl hM hs hL
  rcases st with _ | ⟨x | x | ⟨kd, _ | j⟩, st⟩ <;> first | exact hw.elim | exact lv_dup hx hb hd rfl (hk ls _ σ hw H locs rls hP hS hl hM (oks_cons (oks_hd hs) hs) hL)
theorem r_dup2 (h : Cx X own cc N) (hd : decode cc pc = .ok (.dup2, 1)) (hk : Sn X (pc + 1) k) : Sn X pc (c_dup2 k) := by
  obtain ⟨p, l, e, R, s, m, args, below, meth, c, Q, cells, slots, B, nL⟩ := X
  obtain ⟨hx, hb, -⟩ := h
  intro ls st σ hw H locs rls hP hS hl hM hs hL
  rcases st with _ | ⟨x | x | x, _ | ⟨y | y | ⟨kd, _ | j⟩, st⟩⟩ <;> first | exact hw.elim | exact lv_dup2_11 hx hb hd rfl rfl (hk ls _ σ hw H locs rls hP hS hl hM (oks_cons (oks_hd hs) (oks_cons (oks_hd (oks_tl hs)) hs)) hL)
theorem r_pop (h : Cx X own cc N) (hd : decode cc pc = .ok (.pop, 1)) (hk : Sn X (pc + 1) k) : Sn X pc (c_pop k) := by
  obtain ⟨p, l, e, R, s, m, args, below, meth, c, Q, cells, slots, B, nL⟩ := X
  obtain ⟨hx, hb, -⟩ := h
  intro ls st σ hw H locs rls hP hS hl hM hs hL
  rcases st with _ | ⟨x | x | ⟨kd, _ | j⟩, st⟩ <;> first | exact hw.elim | exact lv_pop hx hb hd rfl (hk ls _ σ hw H locs rls hP hS hl hM (oks_tl hs) hL)
theorem r_ifeq {off : Int} {tgt : Nat} (h : Cx X own cc N) (hd : decode cc pc = .ok (.ifCond .eq off, 3)) (ht : (pc : Int) + off = (tgt : Int)) (hk : Sn X (pc + 3) k) : Sn X pc (c_j1 (fun x => x = 0) (AtX X tgt) k) := by
  obtain ⟨p, l, e, R, s, m, args, below, meth, c, Q, cells, slots, B, nL⟩ := X
  obtain ⟨hx, hb, -⟩ := h
  intro ls st σ hw H locs rls hP hS hl hM hs hL
  rcases st with _ | ⟨x | x | x, st⟩ <;> first | exact hw.elim | skip
  have ix : inR x := oks_hd hs
  have i0 : inR 0 := ⟨by decide, by decide⟩
  have iff := of_eq ix i0
  exact lv_if_eq hx hb hd ht (fun z => hw.1 (iff.mp z) H locs rls hP hS hl hM (oks_tl hs) hL) (fun z => hk ls _ σ (hw.2 (fun w => z (iff.mpr w))) H locs rls hP hS hl hM (oks_tl hs) hL)
theorem r_ifne {off : Int} {tgt : Nat} (h : Cx X own cc N) (hd : decode cc pc = .ok (.ifCond .ne off, 3)) (ht : (pc : Int) + off = (tgt : Int)) (hk : Sn X (pc + 3) k) : Sn X pc (c_j1 (fun x => x ≠ 0) (AtX X tgt) k) := by
  obtain ⟨p, l, e, R, s, m, args, below, meth, c, Q, cells, slots, B, nL⟩ := X
  obtain ⟨hx, hb, -⟩ := h
  intro ls st σ hw H locs rls hP hS hl hM hs hL
  rcases st with _ | ⟨x | x | x, st⟩ <;> first | exact hw.elim | skip
  have ix : inR x := oks_hd hs
  have i0 : inR 0 := ⟨by decide, by decide⟩
  have iff := not_congr (of_eq ix i0)
  exact lv_if_ne hx hb hd ht (fun z => hw.1 (iff.mp z) H locs rls hP hS hl hM (oks_tl hs) hL) (fun z => hk ls _ σ (hw.2 (fun w => (iff.mpr w) z)) H locs rls hP hS hl hM (oks_tl hs) hL)
theorem r_iflt {off : Int} {tgt : Nat} (h : Cx X own cc N) (hd : decode cc pc = .ok (.ifCond .lt off, 3)) (ht : (pc : Int) + off = (tgt : Int)) (hk : Sn X (pc + 3) k) : Sn X pc (c_j1 (fun x => x < 0) (AtX X tgt) k) := by
  obtain ⟨p, l, e, R, s, m, args, below, meth, c, Q, cells, slots, B, nL⟩ := X
  obtain ⟨hx, hb, -⟩ := h
  intro ls st σ hw H locs rls hP hS hl hM hs hL
  rcases st with _ | ⟨x | x | x, st⟩ <;> first | exact hw.elim | skip
  have ix : inR x := oks_hd hs
  have i0 : inR 0 := ⟨by decide, by decide⟩
  have iff := of_lt ix i0
  exact lv_if_lt hx hb hd ht (fun z => hw.1 (iff.mp z) H locs rls hP hS hl hM (oks_tl hs) hL) (fun z => hk ls _ σ (hw.2 (fun w => z (iff.mpr w))) H locs rls hP hS hl hM (oks_tl hs) hL)
theorem r_ifge {off : Int} {tgt : Nat} (h : Cx X own cc N) (hd : decode cc pc = .ok (.ifCond .ge off, 3)) (ht : (pc : Int) + off = (tgt : Int)) (hk : Sn X (pc + 3) k) : Sn X pc (c_j1 (fun x => 0 ≤ x) (AtX X tgt) k) := by
  obtain ⟨p, l, e, R, s, m, args, below, meth, c, Q, cells, slots, B, nL⟩ := X
  obtain ⟨hx, hb, -⟩ := h
  intro ls st σ hw H locs rls hP hS hl hM hs hL
  rcases st with _ | ⟨x | x | x, st⟩ <;> first | exact hw.elim | skip
  have ix : inR x := oks_hd hs
  have i0 : inR 0 := ⟨by decide, by decide⟩
  have iff := of_le i0 ix
  exact lv_if_ge hx hb hd ht (fun z => hw.1 (iff.mp z) H locs rls hP hS hl hM (oks_tl hs) hL) (fun z => hk ls _ σ (hw.2 (fun w => z (iff.mpr w))) H locs rls hP hS hl hM (oks_tl hs) hL)
theorem r_ifgt {off : Int} {tgt : Nat} (h : Cx X own cc N) (hd : decode cc pc = .ok (.ifCond .gt off, 3)) (ht : (pc : Int) + off = (tgt : Int)) (hk : Sn X (pc + 3) k) : Sn X pc (c_j1 (fun x => 0 < x) (AtX X tgt) k) := by
  obtain ⟨p, l, e, R, s, m, args, below, meth, c, Q, cells, slots, B, nL⟩ := X
  obtain ⟨hx, hb, -⟩ := h
  intro ls st σ hw H locs rls hP hS hl hM hs hL
  rcases st with _ | ⟨x | x | x, st⟩ <;> first | exact hw.elim | skip
  have ix : inR x := oks_hd hs
  have i0 : inR 0 := ⟨by decide, by decide⟩
  have iff := of_lt i0 ix
  exact lv_if_gt hx hb hd ht (fun z => hw.1 (iff.mp z) H locs rls hP hS hl hM (oks_tl hs) hL) (fun z => hk ls _ σ (hw.2 (fun w => z (iff.mpr w))) H locs rls hP hS hl hM (oks_tl hs) hL)
theorem r_ifle {off : Int} {tgt : Nat} (h : Cx X own cc N) (hd : decode cc pc = .ok (.ifCond .le off, 3)) (ht : (pc : Int) + off = (tgt : Int)) (hk : Sn X (pc + 3) k) : Sn X pc (c_j1 (fun x => x ≤ 0) (AtX X tgt) k) := by
  obtain ⟨p, l, e, R, s, m, args, below, meth, c, Q, cells, slots, B, nL⟩ := X
  obtain ⟨hx, hb, -⟩ := h
  intro ls st σ hw H locs rls hP hS hl hM hs hL
  rcases st with _ | ⟨x | x | x, st⟩ <;> first | exact hw.elim | skip
  have ix : inR x := oks_hd hs
  have i0 : inR 0 := ⟨by decide, by decide⟩
  have iff := of_le ix i0
  exact lv_if_le hx hb hd ht (fun z => hw.1 (iff.mp z) H locs rls hP hS hl hM (oks_tl hs) hL) (fun z => hk ls _ σ (hw.2 (fun w => z (iff.mpr w))) H locs rls hP hS hl hM (oks_tl hs) hL)
theorem r_jeq {off : Int} {tgt : Nat} (h : Cx X own cc N) (hd : decode cc pc = .ok (.if_icmp .eq off, 3)) (ht : (pc : Int) + off = (tgt : Int)) (hk : Sn X (pc + 3) k) : Sn X pc (c_j2 (fun x y => x = y) (AtX X tgt) k) := by
  obtain ⟨p, l, e, R, s, m, args, below, meth, c, Q, cells, slots, B, nL⟩ := X
  obtain ⟨hx, hb, -⟩ := h
  intro ls st σ hw H locs rls hP hS hl hM hs hL
  rcases st with _ | ⟨y | y | y, _ | ⟨x | x | x, st⟩⟩ <;> first | exact hw.elim | skip
  have ix : inR x := oks_hd (oks_tl hs)
  have iy : inR y := oks_hd hs
  have iff := of_eq ix iy
  exact lv_icmp_eq hx hb hd ht (fun z => hw.1 (iff.mp z) H locs rls hP hS hl hM (oks_tl (oks_tl hs)) hL) (fun z => hk ls _ σ (hw.2 (fun w => z (iff.mpr w))) H locs rls hP hS hl hM (oks_tl (oks_tl hs)) hL)
theorem r_jne {off : Int} {tgt : Nat} (h : Cx X own cc N) (hd : decode cc pc = .ok (.if_icmp .ne off, 3)) (ht : (pc : Int) + off = (tgt : Int)) (hk : Sn X (pc + 3) k) : Sn X pc (c_j2 (fun x y => x ≠ y) (AtX X tgt) k) := by
  obtain ⟨p, l, e, R, s, m, args, below, meth, c, Q, cells, slots, B, nL⟩ := X
  obtain ⟨hx, hb, -⟩ := h
  intro ls st σ hw H locs rls hP hS hl hM hs hL
  rcases st with _ | ⟨y | y | y, _ | ⟨x | x | x, st⟩⟩ <;> first | exact hw.elim | skip
  have ix : inR x := oks_hd (oks_tl hs)
  have iy : inR y := oks_hd hs
  have iff := not_congr (of_eq ix iy)
  exact lv_icmp_ne hx hb hd ht (fun z => hw.1 (iff.mp z) H locs rls hP hS hl hM (oks_tl (oks_tl hs)) hL) (fun z => hk ls _ σ (hw.2 (fun w => (iff.mpr w) z)) H locs rls hP hS hl hM (oks_tl (oks_tl hs)) hL)
theorem r_jlt {off : Int} {tgt : Nat} (h : Cx X own cc N) (hd : decode cc pc = .ok (.if_icmp .lt off, 3)) (ht : (pc : Int) + off = (tgt : Int)) (hk : Sn X (pc + 3) k) : Sn X pc (c_j2 (fun x y => x < y) (AtX X tgt) k) := by
  obtain ⟨p, l, e, R, s, m, args, below, meth, c, Q, cells, slots, B, nL⟩ := X
  obtain ⟨hx, hb, -⟩ := h
  intro ls st σ hw H locs rls hP hS hl hM hs hL
  rcases st with _ | ⟨y | y | y, _ | ⟨x | x | x, st⟩⟩ <;> first | exact hw.elim | skip
  have ix : inR x := oks_hd (oks_tl hs)
  have iy : inR y := oks_hd hs
  have iff := of_lt ix iy
  exact lv_icmp_lt hx hb hd ht (fun z => hw.1 (iff.mp z) H locs rls hP hS hl hM (oks_tl (oks_tl hs)) hL) (fun z => hk ls _ σ (hw.2 (fun w => z (iff.mpr w))) H locs rls hP hS hl hM (oks_tl (oks_tl hs)) hL)
theorem r_jge {off : Int} {tgt : Nat} (h : Cx X own cc N) (hd : decode cc pc = .ok (.if_icmp .ge off, 3)) (ht : (pc : Int) + off = (tgt : Int)) (hk : Sn X (pc + 3) k) : Sn X pc (c_j2 (fun x y => y ≤ x) (AtX X tgt) k) := by
  obtain ⟨p, l, e, R, s, m, args, below, meth, c, Q, cells, slots, B, nL⟩ := X
  obtain ⟨hx, hb, -⟩ := h
  intro ls st σ hw H locs rls hP hS hl hM hs hL
  rcases st with _ | ⟨y | y | y, _ | ⟨x | x | x, st⟩⟩ <;> first | exact hw.elim | skip
  have ix : inR x := oks_hd (oks_tl hs)
  have iy : inR y := oks_hd hs
  have iff := of_le iy ix
  exact lv_icmp_ge hx hb hd ht (fun z => hw.1 (iff.mp z) H locs rls hP hS hl hM (oks_tl (oks_tl hs)) hL) (fun z => hk ls _ σ (hw.2 (fun w => z (iff.mpr w))) H locs rls hP hS hl hM (oks_tl (oks_tl hs)) hL)
theorem r_jgt {off : Int} {tgt : Nat} (h : Cx X own cc N) (hd : decode cc pc = .ok (.if_icmp .gt off, 3)) (ht : (pc : Int) + off = (tgt : Int)) (hk : Sn X (pc + 3) k) : Sn X pc (c_j2 (fun x y => y < x) (AtX X tgt) k) := by
  obtain ⟨p, l, e, R, s, m, args, below, meth, c, Q, cells, slots, B, nL⟩ := X
  obtain ⟨hx, hb, -⟩ := h
  intro ls st σ hw H locs rls hP hS hl hM hs hL
  rcases st with _ | ⟨y | y | y, _ | ⟨x | x | x, st⟩⟩ <;> first | exact hw.elim | skip
  have ix : inR x := oks_hd (oks_tl hs)
  have iy : inR y := oks_hd hs
  have iff := of_lt iy ix
  exact lv_icmp_gt hx hb hd ht (fun z => hw.1 (iff.mp z) H locs rls hP hS hl hM (oks_tl (oks_tl hs)) hL) (fun z => hk ls _ σ (hw.2 (fun w => z (iff.mpr w))) H locs rls hP hS hl hM (oks_tl (oks_tl hs)) hL)
theorem r_jle {off : Int} {tgt : Nat} (h : Cx X own cc N) (hd : decode cc pc = .ok (.if_icmp .le off, 3)) (ht : (pc : Int) + off = (tgt : Int)) (hk : Sn X (pc + 3) k) : Sn X pc (c_j2 (fun x y => x ≤ y) (AtX X tgt) k) := by
  obtain ⟨p, l, e, R, s, m, args, below, meth, c, Q, cells, slots, B, nL⟩ := X
  obtain ⟨hx, hb, -⟩ := h
  intro ls st σ hw H locs rls hP hS hl hM hs hL
  rcases st with _ | ⟨y | y | y, _ | ⟨x | x | x, st⟩⟩ <;> first | exact hw.elim | skip
  have ix : inR x := oks_hd (oks_tl hs)
  have iy : inR y := oks_hd hs
  have iff := of_le ix iy
  exact lv_icmp_le hx hb hd ht (fun z => hw.1 (iff.mp z) H locs rls hP hS hl hM (oks_tl (oks_tl hs)) hL) (fun z => hk ls _ σ (hw.2 (fun w => z (iff.mpr w))) H locs rls hP hS hl hM (oks_tl (oks_tl hs)) hL)
theorem r_goto {off : Int} {tgt : Nat} (h : Cx X own cc N) (hd : decode cc pc = .ok (.goto off, 3)) (ht : (pc : Int) + off = (tgt : Int)) : Sn X pc (AtX X tgt) := by
  obtain ⟨p, l, e, R, s, m, args, below, meth, c, Q, cells, slots, B, nL⟩ := X
  obtain ⟨hx, hb, -⟩ := h
  intro ls st σ hw H locs rls hP hS hl hM hs hL
  exact lv_goto hx hb hd ht (hw H locs rls hP hS hl hM hs hL)
theorem r_fall : Sn X pc (AtX X pc) := fun _ _ _ h => h
theorem r_jnull {off : Int} {tgt : Nat} (h : Cx X own cc N) (hd : decode cc pc = .ok (.ifnull off, 3)) (ht : (pc : Int) + off = (tgt : Int)) (hk : Sn X (pc + 3) k) : Sn X pc (c_jn (AtX X tgt) k) := by
  obtain ⟨p, l, e, R, s, m, args, below, meth, c, Q, cells, slots, B, nL⟩ := X
  obtain ⟨hx, hb, -⟩ := h
  intro ls st σ hw H locs rls hP hS hl hM hs hL
  rcases st with _ | ⟨x | x | ⟨kd, _ | j⟩, st⟩ <;> first | exact hw.elim | skip
  · exact lv_ifnullN hx hb hd ht (hw H locs rls hP hS hl hM (oks_tl hs) hL)
  · exact lv_ifnull hx hb hd (hk ls _ σ hw H locs rls hP hS hl hM (oks_tl hs) hL)
theorem r_jnonnull {off : Int} {tgt : Nat} (h : Cx X own cc N) (hd : decode cc pc = .ok (.ifnonnull off, 3)) (ht : (pc : Int) + off = (tgt : Int)) (hk : Sn X (pc + 3) k) : Sn X pc (c_jn k (AtX X tgt)) := by
  obtain ⟨p, l, e, R, s, m, args, below, meth, c, Q, cells, slots, B, nL⟩ := X
  obtain ⟨hx, hb, -⟩ := h
  intro ls st σ hw H locs rls hP hS hl hM hs hL
  rcases st with _ | ⟨x | x | ⟨kd, _ | j⟩, st⟩ <;> first | exact hw.elim | skip
  · exact lv_ifnonnullN hx hb hd (hk ls _ σ hw H locs rls hP hS hl hM (oks_tl hs) hL)
  · exact lv_ifnonnull hx hb hd ht (hw H locs rls hP hS hl hM (oks_tl hs) hL)
/-- a table: its targets by their places -/
def swt (X : jX) (lo : Int) : List Nat → Nat → List (Int × jWp)
  | [], _ => []
  | t :: r, i => (lo + i, AtX X t) :: swt X lo r (i + 1)
theorem swt_out {d : jWp} {lo x : Int} {ls : jL} {st : List jV} {σ : jM} : ∀ (ts : List Nat) (i : Nat), (x < lo + i ∨ lo + i + ts.length ≤ x) → c_sw0 (swt X lo ts i) d x ls st σ → d ls st σ
  | [], i, _, h => h
  | t :: r, i, ho, h => swt_out r (i + 1) (by simp only [List.length_cons] at ho; omega) (h.2 (by simp only [List.length_cons] at ho; omega))
theorem swt_in {d : jWp} {lo x : Int} {ls : jL} {st : List jV} {σ : jM} {t : Nat} : ∀ (ts : List Nat) (i n : Nat), ts[n]? = some t → x = lo + i + n → c_sw0 (swt X lo ts i) d x ls st σ → AtX X t ls st σ
  | [], i, n, hn, _, _ => by simp at hn
  | u :: r, i, 0, hn, hx, h => by
    have : u = t := by simpa using hn
    subst this
    exact h.1 (by omega)
  | u :: r, i, n + 1, hn, hx, h => swt_in r (i + 1) n (by simpa using hn) (by omega) (h.2 (by omega))
theorem r_tsw {dflt lo hi : Int} {offs : Array Int} {len dt : Nat} {ts : List Nat} (h : Cx X own cc N) (hd : decode cc pc = .ok (.tableswitch dflt lo hi offs, len)) (hdt : (pc : Int) + dflt = (dt : Int)) (hts : offs.toList.map (fun o => (pc : Int) + o) = ts.map (fun t : Nat => (t : Int))) (hh : hi = lo + ts.length - 1) : Sn X pc (c_sw (swt X lo ts 0) (AtX X dt)) := by
  obtain ⟨p, l, e, R, s, m, args, below, meth, c, Q, cells, slots, B, nL⟩ := X
  obtain ⟨hx, hb, -⟩ := h
  intro ls st σ hw H locs rls hP hS hl hM hs hL
  rcases st with _ | ⟨x | x | x, st⟩ <;> first | exact hw.elim | skip
  have ix : inR x := oks_hd hs
  have ex : (Int32.ofInt x).toInt = x := wr_id ix.1 ix.2
  by_cases ho : x < lo ∨ hi < x
  · exact lv_tableOut hx hb hd (by rw [ex]; exact ho) hdt (swt_out ts 0 (by omega) hw H locs rls hP hS hl hM (oks_tl hs) hL)
  · have hlt : (x - lo).toNat < ts.length := by omega
    have h1 : (offs.toList.map (fun o => (pc : Int) + o))[(x - lo).toNat]? = some ((ts[(x - lo).toNat] : Nat) : Int) := by rw [hts]; simp [hlt]
    rw [List.getElem?_map] at h1
    cases hof : offs.toList[(x - lo).toNat]? with
    | none => rw [hof] at h1; simp at h1
    | some off =>
      rw [hof] at h1
      have h2 : (pc : Int) + off = ((ts[(x - lo).toNat] : Nat) : Int) := by simpa using h1
      exact lv_tableIn hx hb hd (by rw [ex]; omega) (by rw [ex]; omega) (by rw [ex, ← Array.getElem?_toList]; exact hof) h2 (swt_in ts 0 (x - lo).toNat (by simp [hlt]) (by omega) hw H locs rls hP hS hl hM (oks_tl hs) hL)
def lsw (X : jX) : List (Int × Nat) → List (Int × jWp)
  | [] => []
  | (v, t) :: r => (v, AtX X t) :: lsw X r
theorem lsw_go {d : jWp} {x : Int} {ls : jL} {st : List jV} {σ : jM} {dt : Nat} (hdd : d = AtX X dt) : ∀ (ps : List (Int × Int)) (ts : List (Int × Nat)) (dflt : Int), (pc : Int) + dflt = (dt : Int) → ps.map (fun q => (q.1, (pc : Int) + q.2)) = ts.map (fun q => (q.1, (q.2 : Int))) → c_sw0 (lsw X ts) d x ls st σ → ∃ tgt : Nat, (pc : Int) + Op.lookupswitch.offset ps dflt x = (tgt : Int) ∧ AtX X tgt ls st σ
  | [], ts, dflt, hd, hp, h => by
    cases ts with
    | nil => exact ⟨dt, hd, hdd ▸ h⟩
    | cons a b => simp at hp
  | (v, o) :: ps, ts, dflt, hd, hp, h => by
    cases ts with
    | nil => simp at hp
    | cons a b =>
      obtain ⟨v', t⟩ := a
      simp only [List.map_cons, List.cons.injEq, Prod.mk.injEq] at hp
      obtain ⟨⟨rfl, ho⟩, hr⟩ := hp
      by_cases e : x = v
      · refine ⟨t, ?_, h.1 e⟩
        simp [Op.lookupswitch.offset, e, ho]
      · obtain ⟨tgt, h1, h2⟩ := lsw_go hdd ps b dflt hd hr (h.2 e)
        refine ⟨tgt, ?_, h2⟩
        rw [← h1]
        simp [Op.lookupswitch.offset, Ne.symm e]
theorem r_lsw {dflt : Int} {ps : Array (Int × Int)} {len dt : Nat} {ts : List (Int × Nat)} (h : Cx X own cc N) (hd : decode cc pc = .ok (.lookupswitch dflt ps, len)) (hdt : (pc : Int) + dflt = (dt : Int)) (hp : (ps.toList.zip (ps.toList.drop 1)).all (fun (a, next) => a.1 < next.1) = true) (hts : ps.toList.map (fun q => (q.1, (pc : Int) + q.2)) = ts.map (fun q => (q.1, (q.2 : Int)))) : Sn X pc (c_sw (lsw X ts) (AtX X dt)) := by
  obtain ⟨p, l, e, R, s, m, args, below, meth, c, Q, cells, slots, B, nL⟩ := X
  obtain ⟨hx, hb, -⟩ := h
  intro ls st σ hw H locs rls hP hS hl hM hs hL
  rcases st with _ | ⟨x | x | x, st⟩ <;> first | exact hw.elim | skip
  have ix : inR x := oks_hd hs
  have ex : (Int32.ofInt x).toInt = x := wr_id ix.1 ix.2
  obtain ⟨tgt, h1, h2⟩ := lsw_go (pc := pc) rfl ps.toList ts dflt hdt hts hw
  exact lv_lookup hx hb hd hp (by rw [ex]) h1 (h2 H locs rls hP hS hl hM (oks_tl hs) hL)
end R2
