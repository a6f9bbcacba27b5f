/-! ===== a7 the law: its script ===== -/
def Scr (X : jX) (L : Nat) (xs : Nat → Int32) : Prop := match X with
  | (_, _, _, _, s, _, _, _, _, _, _, _, _, B, _) => va_X (B.1 92 0) L xs s s.heap ∧ B.1 92 0 < s.heap.size ∧ B.2.2.2.2 = s.heap.size ∧ L ≤ 3072
def c_sld (L : Nat) (xs : Nat → Int32) (k : jWp) : jWp := fun ls st σ => match st with
  | .inl i :: .inr (.inr (k', some j)) :: st => k' = 92 ∧ (0 ≤ i ∧ i < L) ∧ k ls (.inl (xs i.toNat).toInt :: st) σ
  | _ => False
def c_slen (L : Nat) (k : jWp) : jWp := fun ls st σ => match st with
  | .inr (.inr (k', some j)) :: st => k' = 92 ∧ k ls (.inl L :: st) σ
  | _ => False
section RS
variable {X : jX} {own : String} {cc : ByteArray} {N pc L : Nat} {xs : Nat → Int32} {k : jWp}
theorem okr92 {B : jB} {j : Nat} (hC : clo B) (h : okr B.2.1 92 j) : j = 0 := by
  rcases h with h | h | h | h | h | h
  · rcases hC 92 j h with ⟨z, -⟩ | ⟨-, z, -⟩ <;> omega
  · omega
  · omega
  · omega
  · omega
  · omega
theorem r_sld (h : Cx X own cc N) (hX : Scr X L xs) (hd : decode cc pc = .ok (.iaload, 1)) (hk : Sn X (pc + 1) k) : Sn X pc (c_sld L xs k) := by
  obtain ⟨p, l, e, R, s, m, args, below, meth, c, Q, cells, slots, B, nL⟩ := X
  obtain ⟨hx, hb, -, -, -, -, -, -, -, -, hC⟩ := h
  obtain ⟨h1, h2, h3, h4⟩ := hX
  intro ls st σ hw H locs rls hP hS hl hM hs hL
  rcases st with _ | ⟨x | x | x, _ | ⟨y | y | ⟨k', _ | j⟩, st⟩⟩ <;> first | exact hw.elim | skip
  obtain ⟨rfl, hi, hw⟩ := hw
  have hj := okr92 hC (oks_hd (oks_tl hs))
  subst hj
  have hin : inR x := oks_hd hs
  have := hk ls _ σ hw H locs rls hP hS hl hM (oks_cons (t32_in _) (oks_tl (oks_tl hs))) hL
  refine va_sld (A := sysA B) (H0 := s.heap) hx hb h1 h2 (fun z => absurd (show B.2.2.2.2 ≤ B.1 92 0 from z) (by omega)) hS (in_of hin hi) hd ?_
  rw [cl_of hin]
  have e : vr B.1 (.inl (xs x.toNat).toInt) = .int (xs x.toNat) := by
    show Value.int (Int32.ofInt (xs x.toNat).toInt) = _
    rw [Int32.ofInt_toInt]
  rw [← e]
  exact this
theorem r_slen (h : Cx X own cc N) (hX : Scr X L xs) (hd : decode cc pc = .ok (.arraylength, 1)) (hk : Sn X (pc + 1) k) : Sn X pc (c_slen L k) := by
  obtain ⟨p, l, e, R, s, m, args, below, meth, c, Q, cells, slots, B, nL⟩ := X
  obtain ⟨hx, hb, -, -, -, -, -, -, -, -, hC⟩ := h
  obtain ⟨h1, h2, h3, h4⟩ := hX
  intro ls st σ hw H locs rls hP hS hl hM hs hL
  rcases st with _ | ⟨x | x | ⟨k', _ | j⟩, st⟩ <;> first | exact hw.elim | skip
  obtain ⟨rfl, hw⟩ := hw
  have hj := okr92 hC (oks_hd hs)
  subst hj
  have := hk ls _ σ hw H locs rls hP hS hl hM (oks_cons (show inR (L : Int) from ⟨by omega, by omega⟩) (oks_tl hs)) hL
  refine va_slen (A := sysA B) (H0 := s.heap) hx hb h1 h2 (fun z => absurd (show B.2.2.2.2 ≤ B.1 92 0 from z) (by omega)) hS hd ?_
  have e : vr B.1 (.inl (L : Int)) = .int (Int32.ofNat L) := by
    show Value.int (Int32.ofInt (L : Int)) = _
    rw [Int32.ofInt_eq_ofNat]
  rw [← e]
  exact this
end RS

