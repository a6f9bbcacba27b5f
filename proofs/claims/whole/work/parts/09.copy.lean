/-! ===== 09 copies of rows; returns of longs ===== -/
def c_lret (Φ : jPh) : jWp := fun _ st σ => match st with
  | [.inr (.inl x)] => Φ (some (.inr (.inl x))) σ
  | _ => False
def cpyF (f g : Nat → Int) (sp dp n : Nat) : Nat → Int := fun o => if dp ≤ o ∧ o < dp + n then f (sp + (o - dp)) else g o
def c_cpy (k : jWp) : jWp := fun ls st σ => match st with
  | .inl n :: .inl dp :: .inr (.inr (k2, some j2)) :: .inl sp :: .inr (.inr (k1, some j1)) :: st => (eTc k1 = 0 ∧ eCl k1 = 0 ∧ 11 ≤ k1 ∧ k1 < 90) ∧ (eTc k2 = 0 ∧ eCl k2 = 0 ∧ 11 ≤ k2 ∧ k2 < 90) ∧ (0 ≤ sp ∧ 0 ≤ dp ∧ 0 ≤ n ∧ sp + n ≤ jln k1 j1 ∧ dp + n ≤ jln k2 j2) ∧ vsz st ≤ 8 ∧
      k ls st (sA σ k2 j2 (cpyF (σ.1 k1 j1) (σ.1 k2 j2) sp.toNat dp.toNat n.toNat))
  | _ => False
section R10
variable {X : jX} {own : String} {cc : ByteArray} {N pc ix d : Nat} {k : jWp} {Φ : jPh}
theorem r_lret (h : Cx X own cc N) (hr : Rt X (some .long) Φ) (hd : decode cc pc = .ok (.lreturn, 1)) : Sn X pc (c_lret Φ) := by
  obtain ⟨p, l, e, R, s, m, args, below, meth, c, Q, cells, slots, B, nL⟩ := X
  obtain ⟨hx, hb, -, -, -, -, -, -, hlocks, -⟩ := h
  obtain ⟨hr, rfl⟩ := hr
  intro ls st σ hw H locs rls hP hS hl hM hs hL
  rcases st with _ | ⟨x | x | x, _ | ⟨y, st⟩⟩ <;> first | exact hw.elim | skip
  exact W.lret hx hb hr (fun t ht _ => ⟨⟨some (.inr (.inl x)), σ, rfl, hw, hM, okv_some (oks_hd hs), by rw [ht]; exact hP⟩, hS.F ht⟩) hS.2.2 hd
theorem r_cpy (h : Cx X own cc N) (hR : Rm X d) (w1 : Cond.methodLink own ix arraycopyName ∈ lw_tbl) (w2 : Cond.native arraycopyName ∈ lw_tbl) (w3 : Cond.static arraycopyName ∈ lw_tbl) (w4 : Cond.initialized "java/lang/System" ∈ lw_tbl) (hd : decode cc pc = .ok (.invokestatic ix, 3)) (hk : Sn X (pc + 3) k) : Sn X pc (c_cpy k) := by
  obtain ⟨p, l, e, R, s, m, args, below, meth, c, Q, cells, slots, B, nL⟩ := X
  obtain ⟨hx, hb, hml, -, hown, hT, hK, -⟩ := h
  obtain ⟨hR1, hR2, -, -⟩ := hR
  intro ls st σ hw H locs rls hP hS hl hM hs hL
  rcases st with _ | ⟨n | n | n, _ | ⟨dp | dp | dp, _ | ⟨y | y | ⟨k2, _ | j2⟩, _ | ⟨sp | sp | sp, _ | ⟨z | z | ⟨k1, _ | j1⟩, st⟩⟩⟩⟩⟩ <;> first | exact hw.elim | skip
  obtain ⟨⟨e1, c1, a1, b1⟩, ⟨e2, c2, a2, b2⟩, ⟨p1, p2, p3, p4, p5⟩, h8, hw⟩ := hw
  have in_n : inR n := oks_hd hs
  have in_d : inR dp := oks_hd (oks_tl hs)
  have hj2 := okr_in (oks_hd (oks_tl (oks_tl hs))) b2
  have in_s : inR sp := oks_hd (oks_tl (oks_tl (oks_tl hs)))
  have hj1 := okr_in (oks_hd (oks_tl (oks_tl (oks_tl (oks_tl hs))))) b1
  have hs5 := oks_tl (oks_tl (oks_tl (oks_tl (oks_tl hs))))
  obtain ⟨q1, hq1, -⟩ := wld_at (σ := σ) hj1
  obtain ⟨q2, hq2, hq2'⟩ := wld_at (σ := σ) hj2
  have hset := wld_set (τ := sA σ k2 j2 (cpyF (σ.1 k1 j1) (σ.1 k2 j2) sp.toNat dp.toNat n.toNat)) hP.2 hq2' (fun _ _ hne => cel_sA hne)
  have hf : (fun o => Int32.ofInt ((sA σ k2 j2 (cpyF (σ.1 k1 j1) (σ.1 k2 j2) sp.toNat dp.toNat n.toNat)).1 k2 j2 o)) = va_cpy (fun o => Int32.ofInt (σ.1 k1 j1 o)) (fun o => Int32.ofInt (σ.1 k2 j2 o)) (Int32.ofInt sp).toNatClampNeg (Int32.ofInt dp).toNatClampNeg (Int32.ofInt n).toNatClampNeg := by
    rw [cl_of in_s, cl_of in_d, cl_of in_n]
    funext o
    simp only [sA, va_cpy, cpyF, true_and, if_true]
    split <;> rfl
  rw [cel_a (by omega), ev_int (by omega), c1] at hq1
  rw [cel_a (by omega), ev_int (by omega), c2] at hq2
  rw [cel_a (by omega), ev_int (by omega), c2, hf] at hset
  have i0 : inR 0 := ⟨by decide, by decide⟩
  refine va_copyi hx hb (by rw [hml]; exact hl.1.symm) hown (hT _ w1 rfl _) (hT _ w2 rfl _) (hT _ w3 rfl _) (hT _ w4 rfl _) hK hP.1 hP.2 hS q1 q2 0 0 hq1 hq2 (ty_at (k := 23) (by decide)) (ty_at (k := 23) (by decide)) (by rfl) (fun z => absurd ((of_lt in_s i0).mp z) (by omega)) (fun z => absurd ((of_lt in_d i0).mp z) (by omega)) (fun z => absurd ((of_lt in_n i0).mp z) (by omega)) (by rw [cl_of in_s, cl_of in_n]; omega) (by rw [cl_of in_d, cl_of in_n]; omega) (fun _ _ => rfl) (by omega) ?_ hd (fun H1 locs1 a b dd => hk ls _ _ hw H1 locs1 rls ⟨hset ▸ a, hset ▸ b⟩ dd hl (okM_sA hM ?_) hs5 hL)
  · show ((st.map (vr B.1)).map fun v => v.category).sum + _ ≤ _
    rw [vsz_sum]
    have : nativeFrameWords "java/lang/System" "arraycopy" 5 + 11 ≤ 50 := by decide +kernel
    omega
  · intro o
    unfold cpyF
    split
    · exact hM.1 _ _ _
    · exact hM.1 _ _ _
end R10
