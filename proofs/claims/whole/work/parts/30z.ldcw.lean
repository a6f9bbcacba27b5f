/-! ===== a text by the wide form of ldc ===== -/
section RW
variable {X : jX} {own : String} {cc : ByteArray} {N pc ix : Nat} {k : jWp}
theorem r_strw {i : Nat} {tx : String} (h : Cx X own cc N) (hi : i < 7) (hl0 : (own, ix, tx, i) ∈ jstr) (hd : decode cc pc = .ok (.ldc_w ix, 3)) (hk' : Sn X (pc + 3) k) : Sn X pc (c_str i k) := by
  obtain ⟨p, l, e, R, s, m, args, below, meth, c, Q, cells, slots, B, nL⟩ := X
  obtain ⟨hx, hb, -, -, hown, hT, hK, -, -, hRm, hCl⟩ := h
  intro ls st σ hw H locs rls hP hS hl hM hs hL
  have kk := hk' ls _ σ hw H locs rls hP hS hl hM (oks_cons (show okr B.2.1 90 i from Or.inr (Or.inl ⟨rfl, hi⟩)) hs) hL
  have hZ := hRm.1 _ hl0
  intro T hT' Y
  obtain ⟨t, a1, b1⟩ := kk T hT' Y
  refine ⟨t, ?_, b1⟩
  obtain ⟨kc, cf, i9, a', hkc, hcf, hcp, -, hr, hev'⟩ := Cond.stringRef_spec hown hZ.1
  cases hZ.2.symm.trans hev'
  obtain ⟨k', hk2, he⟩ := Y.warmed.alike.2.2 _ _ hkc
  have hr' : k'.resolved[ix]? = some (some (.string (B.1 90 i))) := by
    rcases Y.warmed.entry hkc hk2 ix with h | ⟨h, -⟩
    · rw [h]; exact hr
    · rw [hr] at h; cases h
  have hdg : decode c.code pc = .ok (.ldc_w ix, 3) := by rw [hb]; exact hd
  jvm_step Y.here [hx, hdg, ldc_w.wp_string (e := e) (s := T) (f := F0 m pc rls (st.map (vr B.1))) Y.here.top hk2 (by rw [he]; exact hcf) hcp hr']
  exact a1
end RW
