/-! ===== 13 pieces and certificates: jdk 1 (printed by gen/run.py) ===== -/
/-! java/lang/Integer.bitCount(I)I -/
def w_IN_bitCount_0 (Φ : jPh) (d : Nat) : jWp := c_il 0 (c_il 0 (c_ic 1 (c_b2 jush (c_ic 1431655765 (c_b2 jand (c_b2 (fun x y => wr (x - y)) (c_is 0 (c_il 0 (c_ic 858993459 (c_b2 jand (c_il 0 (c_ic 2 (c_b2 jush (c_ic 858993459 (c_b2 jand (c_b2 (fun x y => wr (x + y)) (c_is 0 (c_il 0 (c_il 0 (c_ic 4 (c_b2 jush (c_b2 (fun x y => wr (x + y)) (c_ic 252645135 (c_b2 jand (c_is 0 (c_il 0 (c_il 0 (c_ic 8 (c_b2 jush (c_b2 (fun x y => wr (x + y)) (c_is 0 (c_il 0 (c_il 0 (c_ic 16 (c_b2 jush (c_b2 (fun x y => wr (x + y)) (c_is 0 (c_il 0 (c_ic 63 (c_b2 jand (c_iret Φ)))))))))))))))))))))))))))))))))))))))))
theorem s_IN_bitCount_0 {X : jX} {Φ : jPh} {d : Nat} (h : Cx X "java/lang/Integer" prog_18_method_49_code 1) (hR : Rm X d) (hr : Rt X (some .int) Φ) : Sn X 0 (w_IN_bitCount_0 Φ d) :=
  r_il0 (pc := 0) (n := 0) h (by decide +kernel) rfl (r_il0 (pc := 1) (n := 0) h (by decide +kernel) rfl (r_ic (pc := 2) h (by decide +kernel) ⟨by decide, by decide⟩ (r_ush (pc := 3) h (by decide +kernel) (r_ldcw (pc := 4) h k_900 (by decide +kernel) ⟨by decide, by decide⟩ (r_and (pc := 7) h (by decide +kernel) (r_sub (pc := 8) h (by decide +kernel) (r_is0 (pc := 9) (n := 0) h (by decide +kernel) rfl (by decide) (r_il0 (pc := 10) (n := 0) h (by decide +kernel) rfl (r_ldcw (pc := 11) h k_901 (by decide +kernel) ⟨by decide, by decide⟩ (r_and (pc := 14) h (by decide +kernel) (r_il0 (pc := 15) (n := 0) h (by decide +kernel) rfl (r_ic (pc := 16) h (by decide +kernel) ⟨by decide, by decide⟩ (r_ush (pc := 17) h (by decide +kernel) (r_ldcw (pc := 18) h k_901 (by decide +kernel) ⟨by decide, by decide⟩ (r_and (pc := 21) h (by decide +kernel) (r_add (pc := 22) h (by decide +kernel) (r_is0 (pc := 23) (n := 0) h (by decide +kernel) rfl (by decide) (r_il0 (pc := 24) (n := 0) h (by decide +kernel) rfl (r_il0 (pc := 25) (n := 0) h (by decide +kernel) rfl (r_ic (pc := 26) h (by decide +kernel) ⟨by decide, by decide⟩ (r_ush (pc := 27) h (by decide +kernel) (r_add (pc := 28) h (by decide +kernel) (r_ldcw (pc := 29) h k_902 (by decide +kernel) ⟨by decide, by decide⟩ (r_and (pc := 32) h (by decide +kernel) (r_is0 (pc := 33) (n := 0) h (by decide +kernel) rfl (by decide) (r_il0 (pc := 34) (n := 0) h (by decide +kernel) rfl (r_il0 (pc := 35) (n := 0) h (by decide +kernel) rfl (r_bi (pc := 36) h (by decide +kernel) (by decide +kernel) ⟨by decide, by decide⟩ (r_ush (pc := 38) h (by decide +kernel) (r_add (pc := 39) h (by decide +kernel) (r_is0 (pc := 40) (n := 0) h (by decide +kernel) rfl (by decide) (r_il0 (pc := 41) (n := 0) h (by decide +kernel) rfl (r_il0 (pc := 42) (n := 0) h (by decide +kernel) rfl (r_bi (pc := 43) h (by decide +kernel) (by decide +kernel) ⟨by decide, by decide⟩ (r_ush (pc := 45) h (by decide +kernel) (r_add (pc := 46) h (by decide +kernel) (r_is0 (pc := 47) (n := 0) h (by decide +kernel) rfl (by decide) (r_il0 (pc := 48) (n := 0) h (by decide +kernel) rfl (r_bi (pc := 49) h (by decide +kernel) (by decide +kernel) ⟨by decide, by decide⟩ (r_and (pc := 51) h (by decide +kernel) (r_iret (pc := 52) h hr (by decide +kernel))))))))))))))))))))))))))))))))))))))))))
theorem i_IN_bitCount {as : List jV} {σ : jM} {Φ : jPh} {d : Nat} (hlen : (lent as).length ≤ 1) (body : w_IN_bitCount_0 Φ d (lins as 1) [] σ) : Ct (d + 1) M_IN_bitCount as σ Φ :=
  Ct.intro (own := "java/lang/Integer") (by decide +kernel) rfl hlen (fun X h hR hr => s_IN_bitCount_0 h hR hr _ _ _ (body))
/-! java/lang/Math.floorMod(II)I -/
def w_MA_floorMod_18 (Φ : jPh) (d : Nat) : jWp := c_il 2 (c_iret Φ)
theorem s_MA_floorMod_18 {X : jX} {Φ : jPh} {d : Nat} (h : Cx X "java/lang/Math" prog_19_method_50_code 3) (hR : Rm X d) (hr : Rt X (some .int) Φ) : Sn X 18 (w_MA_floorMod_18 Φ d) :=
  r_il0 (pc := 18) (n := 2) h (by decide +kernel) rfl (r_iret (pc := 19) h hr (by decide +kernel))
def w_MA_floorMod_0 (Φ : jPh) (d : Nat) : jWp := c_il 0 (c_il 1 (c_b2n jrem (c_is 2 (c_il 0 (c_il 1 (c_b2 jxor (c_j1 (fun x => 0 ≤ x) ((w_MA_floorMod_18 Φ d)) (c_il 2 (c_j1 (fun x => x = 0) ((w_MA_floorMod_18 Φ d)) (c_il 2 (c_il 1 (c_b2 (fun x y => wr (x + y)) (c_iret Φ)))))))))))))
theorem s_MA_floorMod_0 {X : jX} {Φ : jPh} {d : Nat} (h : Cx X "java/lang/Math" prog_19_method_50_code 3) (hR : Rm X d) (hr : Rt X (some .int) Φ) : Sn X 0 (w_MA_floorMod_0 Φ d) :=
  r_il0 (pc := 0) (n := 0) h (by decide +kernel) rfl (r_il0 (pc := 1) (n := 1) h (by decide +kernel) rfl (r_rem (pc := 2) h (by decide +kernel) (r_is0 (pc := 3) (n := 2) h (by decide +kernel) rfl (by decide) (r_il0 (pc := 4) (n := 0) h (by decide +kernel) rfl (r_il0 (pc := 5) (n := 1) h (by decide +kernel) rfl (r_xor (pc := 6) h (by decide +kernel) (m_j1 (r_ifge (pc := 7) (off := 11) (tgt := 18) h (by decide +kernel) (by decide) (r_il0 (pc := 10) (n := 2) h (by decide +kernel) rfl (m_j1 (r_ifeq (pc := 11) (off := 7) (tgt := 18) h (by decide +kernel) (by decide) (r_il0 (pc := 14) (n := 2) h (by decide +kernel) rfl (r_il0 (pc := 15) (n := 1) h (by decide +kernel) rfl (r_add (pc := 16) h (by decide +kernel) (r_iret (pc := 17) h hr (by decide +kernel)))))) (s_MA_floorMod_18 h hR hr)))) (s_MA_floorMod_18 h hR hr))))))))
theorem i_MA_floorMod {as : List jV} {σ : jM} {Φ : jPh} {d : Nat} (hlen : (lent as).length ≤ 3) (body : w_MA_floorMod_0 Φ d (lins as 3) [] σ) : Ct (d + 1) M_MA_floorMod as σ Φ :=
  Ct.intro (own := "java/lang/Math") (by decide +kernel) rfl hlen (fun X h hR hr => s_MA_floorMod_0 h hR hr _ _ _ (body))
/-! java/lang/Math.max(II)I -/
def w_MA_max_10 (Φ : jPh) (d : Nat) : jWp := c_iret Φ
theorem s_MA_max_10 {X : jX} {Φ : jPh} {d : Nat} (h : Cx X "java/lang/Math" prog_19_method_65_code 2) (hR : Rm X d) (hr : Rt X (some .int) Φ) : Sn X 10 (w_MA_max_10 Φ d) :=
  r_iret (pc := 10) h hr (by decide +kernel)
def w_MA_max_9 (Φ : jPh) (d : Nat) : jWp := c_il 1 ((w_MA_max_10 Φ d))
theorem s_MA_max_9 {X : jX} {Φ : jPh} {d : Nat} (h : Cx X "java/lang/Math" prog_19_method_65_code 2) (hR : Rm X d) (hr : Rt X (some .int) Φ) : Sn X 9 (w_MA_max_9 Φ d) :=
  r_il0 (pc := 9) (n := 1) h (by decide +kernel) rfl ((s_MA_max_10 h hR hr))
def w_MA_max_0 (Φ : jPh) (d : Nat) : jWp := c_il 0 (c_il 1 (c_j2 (fun x y => x < y) ((w_MA_max_9 Φ d)) (c_il 0 ((w_MA_max_10 Φ d)))))
theorem s_MA_max_0 {X : jX} {Φ : jPh} {d : Nat} (h : Cx X "java/lang/Math" prog_19_method_65_code 2) (hR : Rm X d) (hr : Rt X (some .int) Φ) : Sn X 0 (w_MA_max_0 Φ d) :=
  r_il0 (pc := 0) (n := 0) h (by decide +kernel) rfl (r_il0 (pc := 1) (n := 1) h (by decide +kernel) rfl (m_j2 (r_jlt (pc := 2) (off := 7) (tgt := 9) h (by decide +kernel) (by decide) (r_il0 (pc := 5) (n := 0) h (by decide +kernel) rfl (m_goto (r_goto (pc := 6) (off := 4) (tgt := 10) h (by decide +kernel) (by decide)) (s_MA_max_10 h hR hr)))) (s_MA_max_9 h hR hr)))
theorem i_MA_max {as : List jV} {σ : jM} {Φ : jPh} {d : Nat} (hlen : (lent as).length ≤ 2) (body : w_MA_max_0 Φ d (lins as 2) [] σ) : Ct (d + 1) M_MA_max as σ Φ :=
  Ct.intro (own := "java/lang/Math") (by decide +kernel) rfl hlen (fun X h hR hr => s_MA_max_0 h hR hr _ _ _ (body))
/-! java/lang/Math.max(JJ)J -/
def w_MA_max2_11 (Φ : jPh) (d : Nat) : jWp := c_lret Φ
theorem s_MA_max2_11 {X : jX} {Φ : jPh} {d : Nat} (h : Cx X "java/lang/Math" prog_19_method_66_code 4) (hR : Rm X d) (hr : Rt X (some .long) Φ) : Sn X 11 (w_MA_max2_11 Φ d) :=
  r_lret (pc := 11) h hr (by decide +kernel)
def w_MA_max2_10 (Φ : jPh) (d : Nat) : jWp := c_ll 2 ((w_MA_max2_11 Φ d))
theorem s_MA_max2_10 {X : jX} {Φ : jPh} {d : Nat} (h : Cx X "java/lang/Math" prog_19_method_66_code 4) (hR : Rm X d) (hr : Rt X (some .long) Φ) : Sn X 10 (w_MA_max2_10 Φ d) :=
  r_ll0 (pc := 10) (n := 2) h (by decide +kernel) rfl ((s_MA_max2_11 h hR hr))
def w_MA_max2_0 (Φ : jPh) (d : Nat) : jWp := c_ll 0 (c_ll 2 (c_lcm (c_j1 (fun x => x < 0) ((w_MA_max2_10 Φ d)) (c_ll 0 ((w_MA_max2_11 Φ d))))))
theorem s_MA_max2_0 {X : jX} {Φ : jPh} {d : Nat} (h : Cx X "java/lang/Math" prog_19_method_66_code 4) (hR : Rm X d) (hr : Rt X (some .long) Φ) : Sn X 0 (w_MA_max2_0 Φ d) :=
  r_ll0 (pc := 0) (n := 0) h (by decide +kernel) rfl (r_ll0 (pc := 1) (n := 2) h (by decide +kernel) rfl (r_lcm (pc := 2) h (by decide +kernel) (m_j1 (r_iflt (pc := 3) (off := 7) (tgt := 10) h (by decide +kernel) (by decide) (r_ll0 (pc := 6) (n := 0) h (by decide +kernel) rfl (m_goto (r_goto (pc := 7) (off := 4) (tgt := 11) h (by decide +kernel) (by decide)) (s_MA_max2_11 h hR hr)))) (s_MA_max2_10 h hR hr))))
theorem i_MA_max2 {as : List jV} {σ : jM} {Φ : jPh} {d : Nat} (hlen : (lent as).length ≤ 4) (body : w_MA_max2_0 Φ d (lins as 4) [] σ) : Ct (d + 1) M_MA_max2 as σ Φ :=
  Ct.intro (own := "java/lang/Math") (by decide +kernel) rfl hlen (fun X h hR hr => s_MA_max2_0 h hR hr _ _ _ (body))
/-! java/lang/Math.min(II)I -/
def w_MA_min_10 (Φ : jPh) (d : Nat) : jWp := c_iret Φ
theorem s_MA_min_10 {X : jX} {Φ : jPh} {d : Nat} (h : Cx X "java/lang/Math" prog_19_method_69_code 2) (hR : Rm X d) (hr : Rt X (some .int) Φ) : Sn X 10 (w_MA_min_10 Φ d) :=
  r_iret (pc := 10) h hr (by decide +kernel)
def w_MA_min_9 (Φ : jPh) (d : Nat) : jWp := c_il 1 ((w_MA_min_10 Φ d))
theorem s_MA_min_9 {X : jX} {Φ : jPh} {d : Nat} (h : Cx X "java/lang/Math" prog_19_method_69_code 2) (hR : Rm X d) (hr : Rt X (some .int) Φ) : Sn X 9 (w_MA_min_9 Φ d) :=
  r_il0 (pc := 9) (n := 1) h (by decide +kernel) rfl ((s_MA_min_10 h hR hr))
def w_MA_min_0 (Φ : jPh) (d : Nat) : jWp := c_il 0 (c_il 1 (c_j2 (fun x y => y < x) ((w_MA_min_9 Φ d)) (c_il 0 ((w_MA_min_10 Φ d)))))
theorem s_MA_min_0 {X : jX} {Φ : jPh} {d : Nat} (h : Cx X "java/lang/Math" prog_19_method_69_code 2) (hR : Rm X d) (hr : Rt X (some .int) Φ) : Sn X 0 (w_MA_min_0 Φ d) :=
  r_il0 (pc := 0) (n := 0) h (by decide +kernel) rfl (r_il0 (pc := 1) (n := 1) h (by decide +kernel) rfl (m_j2 (r_jgt (pc := 2) (off := 7) (tgt := 9) h (by decide +kernel) (by decide) (r_il0 (pc := 5) (n := 0) h (by decide +kernel) rfl (m_goto (r_goto (pc := 6) (off := 4) (tgt := 10) h (by decide +kernel) (by decide)) (s_MA_min_10 h hR hr)))) (s_MA_min_9 h hR hr)))
theorem i_MA_min {as : List jV} {σ : jM} {Φ : jPh} {d : Nat} (hlen : (lent as).length ≤ 2) (body : w_MA_min_0 Φ d (lins as 2) [] σ) : Ct (d + 1) M_MA_min as σ Φ :=
  Ct.intro (own := "java/lang/Math") (by decide +kernel) rfl hlen (fun X h hR hr => s_MA_min_0 h hR hr _ _ _ (body))
/-! java/lang/Math.min(JJ)J -/
def w_MA_min2_11 (Φ : jPh) (d : Nat) : jWp := c_lret Φ
theorem s_MA_min2_11 {X : jX} {Φ : jPh} {d : Nat} (h : Cx X "java/lang/Math" prog_19_method_70_code 4) (hR : Rm X d) (hr : Rt X (some .long) Φ) : Sn X 11 (w_MA_min2_11 Φ d) :=
  r_lret (pc := 11) h hr (by decide +kernel)
def w_MA_min2_10 (Φ : jPh) (d : Nat) : jWp := c_ll 2 ((w_MA_min2_11 Φ d))
theorem s_MA_min2_10 {X : jX} {Φ : jPh} {d : Nat} (h : Cx X "java/lang/Math" prog_19_method_70_code 4) (hR : Rm X d) (hr : Rt X (some .long) Φ) : Sn X 10 (w_MA_min2_10 Φ d) :=
  r_ll0 (pc := 10) (n := 2) h (by decide +kernel) rfl ((s_MA_min2_11 h hR hr))
def w_MA_min2_0 (Φ : jPh) (d : Nat) : jWp := c_ll 0 (c_ll 2 (c_lcm (c_j1 (fun x => 0 < x) ((w_MA_min2_10 Φ d)) (c_ll 0 ((w_MA_min2_11 Φ d))))))
theorem s_MA_min2_0 {X : jX} {Φ : jPh} {d : Nat} (h : Cx X "java/lang/Math" prog_19_method_70_code 4) (hR : Rm X d) (hr : Rt X (some .long) Φ) : Sn X 0 (w_MA_min2_0 Φ d) :=
  r_ll0 (pc := 0) (n := 0) h (by decide +kernel) rfl (r_ll0 (pc := 1) (n := 2) h (by decide +kernel) rfl (r_lcm (pc := 2) h (by decide +kernel) (m_j1 (r_ifgt (pc := 3) (off := 7) (tgt := 10) h (by decide +kernel) (by decide) (r_ll0 (pc := 6) (n := 0) h (by decide +kernel) rfl (m_goto (r_goto (pc := 7) (off := 4) (tgt := 11) h (by decide +kernel) (by decide)) (s_MA_min2_11 h hR hr)))) (s_MA_min2_10 h hR hr))))
theorem i_MA_min2 {as : List jV} {σ : jM} {Φ : jPh} {d : Nat} (hlen : (lent as).length ≤ 4) (body : w_MA_min2_0 Φ d (lins as 4) [] σ) : Ct (d + 1) M_MA_min2 as σ Φ :=
  Ct.intro (own := "java/lang/Math") (by decide +kernel) rfl hlen (fun X h hR hr => s_MA_min2_0 h hR hr _ _ _ (body))
/-! java/lang/String.charAt(I)C -/
def w_ST_charAt_16 (Φ : jPh) (d : Nat) : jWp := c_al 0 (c_sval (c_il 1 (c_stop)))
theorem s_ST_charAt_16 {X : jX} {Φ : jPh} {d : Nat} (h : Cx X "java/lang/String" prog_21_method_56_code 2) (hR : Rm X d) (hr : Rt X (some .char) Φ) : Sn X 16 (w_ST_charAt_16 Φ d) :=
  r_al0 (pc := 16) (n := 0) h (by decide +kernel) rfl (r_sval (pc := 17) h k_1740 (by decide +kernel) (r_il0 (pc := 20) (n := 1) h (by decide +kernel) rfl (r_stop)))
def w_ST_charAt_0 (Φ : jPh) (d : Nat) : jWp := c_al 0 (c_callV d M_ST_isLatin1 90 0 (c_j1 (fun x => x = 0) ((w_ST_charAt_16 Φ d)) (c_al 0 (c_sval (c_il 1 (c_callS d M_SL_charAt 2 (c_nret .char Φ)))))))
theorem s_ST_charAt_0 {X : jX} {Φ : jPh} {d : Nat} (h : Cx X "java/lang/String" prog_21_method_56_code 2) (hR : Rm X d) (hr : Rt X (some .char) Φ) : Sn X 0 (w_ST_charAt_0 Φ d) :=
  r_al0 (pc := 0) (n := 0) h (by decide +kernel) rfl (r_callT (pc := 1) h hR v_ST_isLatin1 k_411 (by decide +kernel) (m_j1 (r_ifeq (pc := 4) (off := 12) (tgt := 16) h (by decide +kernel) (by decide) (r_al0 (pc := 7) (n := 0) h (by decide +kernel) rfl (r_sval (pc := 8) h k_1740 (by decide +kernel) (r_il0 (pc := 11) (n := 1) h (by decide +kernel) rfl (r_callS (pc := 12) h hR v_SL_charAt (Or.inl k_1323) (by decide +kernel) (r_nret (pc := 15) h hr (by decide +kernel))))))) (s_ST_charAt_16 h hR hr)))
theorem i_ST_charAt {as : List jV} {σ : jM} {Φ : jPh} {d : Nat} (hlen : (lent as).length ≤ 2) (body : w_ST_charAt_0 Φ d (lins as 2) [] σ) : Ct (d + 1) M_ST_charAt as σ Φ :=
  Ct.intro (own := "java/lang/String") (by decide +kernel) rfl hlen (fun X h hR hr => s_ST_charAt_0 h hR hr _ _ _ (body))
/-! java/lang/String.checkBoundsBeginEnd(III)V -/
def w_ST_checkBoundsBeginEnd_0 (Φ : jPh) (d : Nat) : jWp := c_il 0 (c_il 1 (c_il 2 (c_fmt (c_callS d M_PC_checkFromToIndex 4 (c_pop (c_vret Φ))))))
theorem s_ST_checkBoundsBeginEnd_0 {X : jX} {Φ : jPh} {d : Nat} (h : Cx X "java/lang/String" prog_21_method_158_code 3) (hR : Rm X d) (hr : Rt X none Φ) : Sn X 0 (w_ST_checkBoundsBeginEnd_0 Φ d) :=
  r_il0 (pc := 0) (n := 0) h (by decide +kernel) rfl (r_il0 (pc := 1) (n := 1) h (by decide +kernel) rfl (r_il0 (pc := 2) (n := 2) h (by decide +kernel) rfl (r_fmt (pc := 3) h k_449 (by decide +kernel) (r_callS (pc := 6) h hR v_PC_checkFromToIndex (Or.inl k_451) (by decide +kernel) (r_pop (pc := 9) h (by decide +kernel) (r_vret (pc := 10) h hr (by decide +kernel)))))))
theorem i_ST_checkBoundsBeginEnd {as : List jV} {σ : jM} {Φ : jPh} {d : Nat} (hlen : (lent as).length ≤ 3) (body : w_ST_checkBoundsBeginEnd_0 Φ d (lins as 3) [] σ) : Ct (d + 1) M_ST_checkBoundsBeginEnd as σ Φ :=
  Ct.intro (own := "java/lang/String") (by decide +kernel) rfl hlen (fun X h hR hr => s_ST_checkBoundsBeginEnd_0 h hR hr _ _ _ (body))
/-! java/lang/String.checkIndex(II)V -/
def w_ST_checkIndex_0 (Φ : jPh) (d : Nat) : jWp := c_il 0 (c_il 1 (c_fmt (c_callS d M_PC_checkIndex 3 (c_pop (c_vret Φ)))))
theorem s_ST_checkIndex_0 {X : jX} {Φ : jPh} {d : Nat} (h : Cx X "java/lang/String" prog_21_method_155_code 2) (hR : Rm X d) (hr : Rt X none Φ) : Sn X 0 (w_ST_checkIndex_0 Φ d) :=
  r_il0 (pc := 0) (n := 0) h (by decide +kernel) rfl (r_il0 (pc := 1) (n := 1) h (by decide +kernel) rfl (r_fmt (pc := 2) h k_449 (by decide +kernel) (r_callS (pc := 5) h hR v_PC_checkIndex (Or.inl k_1329) (by decide +kernel) (r_pop (pc := 8) h (by decide +kernel) (r_vret (pc := 9) h hr (by decide +kernel))))))
theorem i_ST_checkIndex {as : List jV} {σ : jM} {Φ : jPh} {d : Nat} (hlen : (lent as).length ≤ 2) (body : w_ST_checkIndex_0 Φ d (lins as 2) [] σ) : Ct (d + 1) M_ST_checkIndex as σ Φ :=
  Ct.intro (own := "java/lang/String") (by decide +kernel) rfl hlen (fun X h hR hr => s_ST_checkIndex_0 h hR hr _ _ _ (body))
/-! java/lang/String.coder()B -/
def w_ST_coder_14 (Φ : jPh) (d : Nat) : jWp := c_nret .byte Φ
theorem s_ST_coder_14 {X : jX} {Φ : jPh} {d : Nat} (h : Cx X "java/lang/String" prog_21_method_152_code 1) (hR : Rm X d) (hr : Rt X (some .byte) Φ) : Sn X 14 (w_ST_coder_14 Φ d) :=
  r_nret (pc := 14) h hr (by decide +kernel)
def w_ST_coder_13 (Φ : jPh) (d : Nat) : jWp := c_ic 1 ((w_ST_coder_14 Φ d))
theorem s_ST_coder_13 {X : jX} {Φ : jPh} {d : Nat} (h : Cx X "java/lang/String" prog_21_method_152_code 1) (hR : Rm X d) (hr : Rt X (some .byte) Φ) : Sn X 13 (w_ST_coder_13 Φ d) :=
  r_ic (pc := 13) h (by decide +kernel) ⟨by decide, by decide⟩ ((s_ST_coder_14 h hR hr))
def w_ST_coder_0 (Φ : jPh) (d : Nat) : jWp := c_ic 1 (c_j1 (fun x => x = 0) ((w_ST_coder_13 Φ d)) (c_al 0 (c_scod ((w_ST_coder_14 Φ d)))))
theorem s_ST_coder_0 {X : jX} {Φ : jPh} {d : Nat} (h : Cx X "java/lang/String" prog_21_method_152_code 1) (hR : Rm X d) (hr : Rt X (some .byte) Φ) : Sn X 0 (w_ST_coder_0 Φ d) :=
  r_gcs (pc := 0) h k_196 (by decide +kernel) (m_j1 (r_ifeq (pc := 3) (off := 10) (tgt := 13) h (by decide +kernel) (by decide) (r_al0 (pc := 6) (n := 0) h (by decide +kernel) rfl (r_scod (pc := 7) h k_1741 (by decide +kernel) (m_goto (r_goto (pc := 10) (off := 4) (tgt := 14) h (by decide +kernel) (by decide)) (s_ST_coder_14 h hR hr))))) (s_ST_coder_13 h hR hr))
theorem i_ST_coder {as : List jV} {σ : jM} {Φ : jPh} {d : Nat} (hlen : (lent as).length ≤ 1) (body : w_ST_coder_0 Φ d (lins as 1) [] σ) : Ct (d + 1) M_ST_coder as σ Φ :=
  Ct.intro (own := "java/lang/String") (by decide +kernel) rfl hlen (fun X h hR hr => s_ST_coder_0 h hR hr _ _ _ (body))
/-! java/lang/String.indexOf(I)I -/
def w_ST_indexOf_0 (Φ : jPh) (d : Nat) : jWp := c_al 0 (c_il 1 (c_ic 0 (c_callV d M_ST_indexOf2 90 2 (c_iret Φ))))
theorem s_ST_indexOf_0 {X : jX} {Φ : jPh} {d : Nat} (h : Cx X "java/lang/String" prog_21_method_79_code 2) (hR : Rm X d) (hr : Rt X (some .int) Φ) : Sn X 0 (w_ST_indexOf_0 Φ d) :=
  r_al0 (pc := 0) (n := 0) h (by decide +kernel) rfl (r_il0 (pc := 1) (n := 1) h (by decide +kernel) rfl (r_ic (pc := 2) h (by decide +kernel) ⟨by decide, by decide⟩ (r_callT (pc := 3) h hR v_ST_indexOf2 k_407 (by decide +kernel) (r_iret (pc := 6) h hr (by decide +kernel)))))
theorem i_ST_indexOf {as : List jV} {σ : jM} {Φ : jPh} {d : Nat} (hlen : (lent as).length ≤ 2) (body : w_ST_indexOf_0 Φ d (lins as 2) [] σ) : Ct (d + 1) M_ST_indexOf as σ Φ :=
  Ct.intro (own := "java/lang/String") (by decide +kernel) rfl hlen (fun X h hR hr => s_ST_indexOf_0 h hR hr _ _ _ (body))
/-! java/lang/String.indexOf(II)I -/
def w_ST_indexOf2_36 (Φ : jPh) (d : Nat) : jWp := c_iret Φ
theorem s_ST_indexOf2_36 {X : jX} {Φ : jPh} {d : Nat} (h : Cx X "java/lang/String" prog_21_method_80_code 3) (hR : Rm X d) (hr : Rt X (some .int) Φ) : Sn X 36 (w_ST_indexOf2_36 Φ d) :=
  r_iret (pc := 36) h hr (by decide +kernel)
def w_ST_indexOf2_23 (Φ : jPh) (d : Nat) : jWp := c_al 0 (c_sval (c_il 1 (c_il 2 (c_al 0 (c_callV d M_ST_length 90 0 (c_stop))))))
theorem s_ST_indexOf2_23 {X : jX} {Φ : jPh} {d : Nat} (h : Cx X "java/lang/String" prog_21_method_80_code 3) (hR : Rm X d) (hr : Rt X (some .int) Φ) : Sn X 23 (w_ST_indexOf2_23 Φ d) :=
  r_al0 (pc := 23) (n := 0) h (by decide +kernel) rfl (r_sval (pc := 24) h k_1740 (by decide +kernel) (r_il0 (pc := 27) (n := 1) h (by decide +kernel) rfl (r_il0 (pc := 28) (n := 2) h (by decide +kernel) rfl (r_al0 (pc := 29) (n := 0) h (by decide +kernel) rfl (r_callT (pc := 30) h hR v_ST_length k_415 (by decide +kernel) (r_stop))))))
def w_ST_indexOf2_0 (Φ : jPh) (d : Nat) : jWp := c_al 0 (c_callV d M_ST_isLatin1 90 0 (c_j1 (fun x => x = 0) ((w_ST_indexOf2_23 Φ d)) (c_al 0 (c_sval (c_il 1 (c_il 2 (c_al 0 (c_callV d M_ST_length 90 0 (c_callS d M_SL_indexOf 4 ((w_ST_indexOf2_36 Φ d)))))))))))
theorem s_ST_indexOf2_0 {X : jX} {Φ : jPh} {d : Nat} (h : Cx X "java/lang/String" prog_21_method_80_code 3) (hR : Rm X d) (hr : Rt X (some .int) Φ) : Sn X 0 (w_ST_indexOf2_0 Φ d) :=
  r_al0 (pc := 0) (n := 0) h (by decide +kernel) rfl (r_callT (pc := 1) h hR v_ST_isLatin1 k_411 (by decide +kernel) (m_j1 (r_ifeq (pc := 4) (off := 19) (tgt := 23) h (by decide +kernel) (by decide) (r_al0 (pc := 7) (n := 0) h (by decide +kernel) rfl (r_sval (pc := 8) h k_1740 (by decide +kernel) (r_il0 (pc := 11) (n := 1) h (by decide +kernel) rfl (r_il0 (pc := 12) (n := 2) h (by decide +kernel) rfl (r_al0 (pc := 13) (n := 0) h (by decide +kernel) rfl (r_callT (pc := 14) h hR v_ST_length k_415 (by decide +kernel) (r_callS (pc := 17) h hR v_SL_indexOf (Or.inl k_416) (by decide +kernel) (m_goto (r_goto (pc := 20) (off := 16) (tgt := 36) h (by decide +kernel) (by decide)) (s_ST_indexOf2_36 h hR hr)))))))))) (s_ST_indexOf2_23 h hR hr)))
theorem i_ST_indexOf2 {as : List jV} {σ : jM} {Φ : jPh} {d : Nat} (hlen : (lent as).length ≤ 3) (body : w_ST_indexOf2_0 Φ d (lins as 3) [] σ) : Ct (d + 1) M_ST_indexOf2 as σ Φ :=
  Ct.intro (own := "java/lang/String") (by decide +kernel) rfl hlen (fun X h hR hr => s_ST_indexOf2_0 h hR hr _ _ _ (body))
/-! java/lang/String.isLatin1()Z -/
def w_ST_isLatin1_18 (Φ : jPh) (d : Nat) : jWp := c_zret Φ
theorem s_ST_isLatin1_18 {X : jX} {Φ : jPh} {d : Nat} (h : Cx X "java/lang/String" prog_21_method_154_code 1) (hR : Rm X d) (hr : Rt X (some .boolean) Φ) : Sn X 18 (w_ST_isLatin1_18 Φ d) :=
  r_zret (pc := 18) h hr (by decide +kernel)
def w_ST_isLatin1_17 (Φ : jPh) (d : Nat) : jWp := c_ic 0 ((w_ST_isLatin1_18 Φ d))
theorem s_ST_isLatin1_17 {X : jX} {Φ : jPh} {d : Nat} (h : Cx X "java/lang/String" prog_21_method_154_code 1) (hR : Rm X d) (hr : Rt X (some .boolean) Φ) : Sn X 17 (w_ST_isLatin1_17 Φ d) :=
  r_ic (pc := 17) h (by decide +kernel) ⟨by decide, by decide⟩ ((s_ST_isLatin1_18 h hR hr))
def w_ST_isLatin1_0 (Φ : jPh) (d : Nat) : jWp := c_ic 1 (c_j1 (fun x => x = 0) ((w_ST_isLatin1_17 Φ d)) (c_al 0 (c_scod (c_j1 (fun x => x ≠ 0) ((w_ST_isLatin1_17 Φ d)) (c_ic 1 ((w_ST_isLatin1_18 Φ d)))))))
theorem s_ST_isLatin1_0 {X : jX} {Φ : jPh} {d : Nat} (h : Cx X "java/lang/String" prog_21_method_154_code 1) (hR : Rm X d) (hr : Rt X (some .boolean) Φ) : Sn X 0 (w_ST_isLatin1_0 Φ d) :=
  r_gcs (pc := 0) h k_196 (by decide +kernel) (m_j1 (r_ifeq (pc := 3) (off := 14) (tgt := 17) h (by decide +kernel) (by decide) (r_al0 (pc := 6) (n := 0) h (by decide +kernel) rfl (r_scod (pc := 7) h k_1741 (by decide +kernel) (m_j1 (r_ifne (pc := 10) (off := 7) (tgt := 17) h (by decide +kernel) (by decide) (r_ic (pc := 13) h (by decide +kernel) ⟨by decide, by decide⟩ (m_goto (r_goto (pc := 14) (off := 4) (tgt := 18) h (by decide +kernel) (by decide)) (s_ST_isLatin1_18 h hR hr)))) (s_ST_isLatin1_17 h hR hr))))) (s_ST_isLatin1_17 h hR hr))
theorem i_ST_isLatin1 {as : List jV} {σ : jM} {Φ : jPh} {d : Nat} (hlen : (lent as).length ≤ 1) (body : w_ST_isLatin1_0 Φ d (lins as 1) [] σ) : Ct (d + 1) M_ST_isLatin1 as σ Φ :=
  Ct.intro (own := "java/lang/String") (by decide +kernel) rfl hlen (fun X h hR hr => s_ST_isLatin1_0 h hR hr _ _ _ (body))
/-! java/lang/String.length()I -/
def w_ST_length_0 (Φ : jPh) (d : Nat) : jWp := c_al 0 (c_sval (c_sbln (c_al 0 (c_callV d M_ST_coder 90 0 (c_b2 jshr (c_iret Φ))))))
theorem s_ST_length_0 {X : jX} {Φ : jPh} {d : Nat} (h : Cx X "java/lang/String" prog_21_method_54_code 1) (hR : Rm X d) (hr : Rt X (some .int) Φ) : Sn X 0 (w_ST_length_0 Φ d) :=
  r_al0 (pc := 0) (n := 0) h (by decide +kernel) rfl (r_sval (pc := 1) h k_1740 (by decide +kernel) (r_sbln (pc := 4) h (by decide +kernel) (r_al0 (pc := 5) (n := 0) h (by decide +kernel) rfl (r_callT (pc := 6) h hR v_ST_coder k_192 (by decide +kernel) (r_shr (pc := 9) h (by decide +kernel) (r_iret (pc := 10) h hr (by decide +kernel)))))))
theorem i_ST_length {as : List jV} {σ : jM} {Φ : jPh} {d : Nat} (hlen : (lent as).length ≤ 1) (body : w_ST_length_0 Φ d (lins as 1) [] σ) : Ct (d + 1) M_ST_length as σ Φ :=
  Ct.intro (own := "java/lang/String") (by decide +kernel) rfl hlen (fun X h hR hr => s_ST_length_0 h hR hr _ _ _ (body))
/-! java/lang/StringLatin1.canEncode(I)Z -/
def w_SL_canEncode_16 (Φ : jPh) (d : Nat) : jWp := c_zret Φ
theorem s_SL_canEncode_16 {X : jX} {Φ : jPh} {d : Nat} (h : Cx X "java/lang/StringLatin1" prog_22_method_4_code 1) (hR : Rm X d) (hr : Rt X (some .boolean) Φ) : Sn X 16 (w_SL_canEncode_16 Φ d) :=
  r_zret (pc := 16) h hr (by decide +kernel)
def w_SL_canEncode_15 (Φ : jPh) (d : Nat) : jWp := c_ic 0 ((w_SL_canEncode_16 Φ d))
theorem s_SL_canEncode_15 {X : jX} {Φ : jPh} {d : Nat} (h : Cx X "java/lang/StringLatin1" prog_22_method_4_code 1) (hR : Rm X d) (hr : Rt X (some .boolean) Φ) : Sn X 15 (w_SL_canEncode_15 Φ d) :=
  r_ic (pc := 15) h (by decide +kernel) ⟨by decide, by decide⟩ ((s_SL_canEncode_16 h hR hr))
def w_SL_canEncode_0 (Φ : jPh) (d : Nat) : jWp := c_il 0 (c_j1 (fun x => x < 0) ((w_SL_canEncode_15 Φ d)) (c_il 0 (c_ic 255 (c_j2 (fun x y => y < x) ((w_SL_canEncode_15 Φ d)) (c_ic 1 ((w_SL_canEncode_16 Φ d)))))))
theorem s_SL_canEncode_0 {X : jX} {Φ : jPh} {d : Nat} (h : Cx X "java/lang/StringLatin1" prog_22_method_4_code 1) (hR : Rm X d) (hr : Rt X (some .boolean) Φ) : Sn X 0 (w_SL_canEncode_0 Φ d) :=
  r_il0 (pc := 0) (n := 0) h (by decide +kernel) rfl (m_j1 (r_iflt (pc := 1) (off := 14) (tgt := 15) h (by decide +kernel) (by decide) (r_il0 (pc := 4) (n := 0) h (by decide +kernel) rfl (r_si (pc := 5) h (by decide +kernel) (by decide +kernel) ⟨by decide, by decide⟩ (m_j2 (r_jgt (pc := 8) (off := 7) (tgt := 15) h (by decide +kernel) (by decide) (r_ic (pc := 11) h (by decide +kernel) ⟨by decide, by decide⟩ (m_goto (r_goto (pc := 12) (off := 4) (tgt := 16) h (by decide +kernel) (by decide)) (s_SL_canEncode_16 h hR hr)))) (s_SL_canEncode_15 h hR hr))))) (s_SL_canEncode_15 h hR hr))
theorem i_SL_canEncode {as : List jV} {σ : jM} {Φ : jPh} {d : Nat} (hlen : (lent as).length ≤ 1) (body : w_SL_canEncode_0 Φ d (lins as 1) [] σ) : Ct (d + 1) M_SL_canEncode as σ Φ :=
  Ct.intro (own := "java/lang/StringLatin1") (by decide +kernel) rfl hlen (fun X h hR hr => s_SL_canEncode_0 h hR hr _ _ _ (body))
/-! java/lang/StringLatin1.charAt([BI)C -/
def w_SL_charAt_0 (Φ : jPh) (d : Nat) : jWp := c_il 1 (c_al 0 (c_sbln (c_callS d M_ST_checkIndex 2 (c_al 0 (c_il 1 (c_sbal (c_ic 255 (c_b2 jand (c_b1 jchr (c_nret .char Φ))))))))))
theorem s_SL_charAt_0 {X : jX} {Φ : jPh} {d : Nat} (h : Cx X "java/lang/StringLatin1" prog_22_method_2_code 2) (hR : Rm X d) (hr : Rt X (some .char) Φ) : Sn X 0 (w_SL_charAt_0 Φ d) :=
  r_il0 (pc := 0) (n := 1) h (by decide +kernel) rfl (r_al0 (pc := 1) (n := 0) h (by decide +kernel) rfl (r_sbln (pc := 2) h (by decide +kernel) (r_callS (pc := 3) h hR v_ST_checkIndex (Or.inl k_1326) (by decide +kernel) (r_al0 (pc := 6) (n := 0) h (by decide +kernel) rfl (r_il0 (pc := 7) (n := 1) h (by decide +kernel) rfl (r_sbal (pc := 8) h (by decide +kernel) (r_si (pc := 9) h (by decide +kernel) (by decide +kernel) ⟨by decide, by decide⟩ (r_and (pc := 12) h (by decide +kernel) (r_i2c (pc := 13) h (by decide +kernel) (r_nret (pc := 14) h hr (by decide +kernel)))))))))))
theorem i_SL_charAt {as : List jV} {σ : jM} {Φ : jPh} {d : Nat} (hlen : (lent as).length ≤ 2) (body : w_SL_charAt_0 Φ d (lins as 2) [] σ) : Ct (d + 1) M_SL_charAt as σ Φ :=
  Ct.intro (own := "java/lang/StringLatin1") (by decide +kernel) rfl hlen (fun X h hR hr => s_SL_charAt_0 h hR hr _ _ _ (body))
/-! java/lang/StringLatin1.indexOf([BIII)I -/
def w_SL_indexOf_29 (Φ : jPh) (d : Nat) : jWp := c_al 0 (c_il 1 (c_il 2 (c_il 3 (c_callS d M_SL_indexOfChar 4 (c_iret Φ)))))
theorem s_SL_indexOf_29 {X : jX} {Φ : jPh} {d : Nat} (h : Cx X "java/lang/StringLatin1" prog_22_method_22_code 4) (hR : Rm X d) (hr : Rt X (some .int) Φ) : Sn X 29 (w_SL_indexOf_29 Φ d) :=
  r_al0 (pc := 29) (n := 0) h (by decide +kernel) rfl (r_il0 (pc := 30) (n := 1) h (by decide +kernel) rfl (r_il0 (pc := 31) (n := 2) h (by decide +kernel) rfl (r_il0 (pc := 32) (n := 3) h (by decide +kernel) rfl (r_callS (pc := 33) h hR v_SL_indexOfChar (Or.inl k_428) (by decide +kernel) (r_iret (pc := 36) h hr (by decide +kernel))))))
def w_SL_indexOf_9 (Φ : jPh) (d : Nat) : jWp := c_il 2 (c_ic 0 (c_callS d M_MA_max 2 (c_is 2 (c_il 3 (c_al 0 (c_sbln (c_callS d M_MA_min 2 (c_is 3 (c_il 2 (c_il 3 (c_j2 (fun x y => x < y) ((w_SL_indexOf_29 Φ d)) (c_ic (-1) (c_iret Φ)))))))))))))
theorem s_SL_indexOf_9 {X : jX} {Φ : jPh} {d : Nat} (h : Cx X "java/lang/StringLatin1" prog_22_method_22_code 4) (hR : Rm X d) (hr : Rt X (some .int) Φ) : Sn X 9 (w_SL_indexOf_9 Φ d) :=
  r_il0 (pc := 9) (n := 2) h (by decide +kernel) rfl (r_ic (pc := 10) h (by decide +kernel) ⟨by decide, by decide⟩ (r_callS (pc := 11) h hR v_MA_max (Or.inl k_422) (by decide +kernel) (r_is0 (pc := 14) (n := 2) h (by decide +kernel) rfl (by decide) (r_il0 (pc := 15) (n := 3) h (by decide +kernel) rfl (r_al0 (pc := 16) (n := 0) h (by decide +kernel) rfl (r_sbln (pc := 17) h (by decide +kernel) (r_callS (pc := 18) h hR v_MA_min (Or.inl k_425) (by decide +kernel) (r_is0 (pc := 21) (n := 3) h (by decide +kernel) rfl (by decide) (r_il0 (pc := 22) (n := 2) h (by decide +kernel) rfl (r_il0 (pc := 23) (n := 3) h (by decide +kernel) rfl (m_j2 (r_jlt (pc := 24) (off := 5) (tgt := 29) h (by decide +kernel) (by decide) (r_ic (pc := 27) h (by decide +kernel) ⟨by decide, by decide⟩ (r_iret (pc := 28) h hr (by decide +kernel)))) (s_SL_indexOf_29 h hR hr))))))))))))
def w_SL_indexOf_0 (Φ : jPh) (d : Nat) : jWp := c_il 1 (c_callS d M_SL_canEncode 1 (c_j1 (fun x => x ≠ 0) ((w_SL_indexOf_9 Φ d)) (c_ic (-1) (c_iret Φ))))
theorem s_SL_indexOf_0 {X : jX} {Φ : jPh} {d : Nat} (h : Cx X "java/lang/StringLatin1" prog_22_method_22_code 4) (hR : Rm X d) (hr : Rt X (some .int) Φ) : Sn X 0 (w_SL_indexOf_0 Φ d) :=
  r_il0 (pc := 0) (n := 1) h (by decide +kernel) rfl (r_callS (pc := 1) h hR v_SL_canEncode (Or.inl k_419) (by decide +kernel) (m_j1 (r_ifne (pc := 4) (off := 5) (tgt := 9) h (by decide +kernel) (by decide) (r_ic (pc := 7) h (by decide +kernel) ⟨by decide, by decide⟩ (r_iret (pc := 8) h hr (by decide +kernel)))) (s_SL_indexOf_9 h hR hr)))
theorem i_SL_indexOf {as : List jV} {σ : jM} {Φ : jPh} {d : Nat} (hlen : (lent as).length ≤ 4) (body : w_SL_indexOf_0 Φ d (lins as 4) [] σ) : Ct (d + 1) M_SL_indexOf as σ Φ :=
  Ct.intro (own := "java/lang/StringLatin1") (by decide +kernel) rfl hlen (fun X h hR hr => s_SL_indexOf_0 h hR hr _ _ _ (body))
/-! java/lang/StringLatin1.indexOfChar([BIII)I -/
def w_SL_indexOfChar_31 (At : Nat → jWp) (Φ : jPh) (d : Nat) : jWp := c_ic (-1) (c_iret Φ)
theorem s_SL_indexOfChar_31 {X : jX} {Φ : jPh} {d : Nat} (h : Cx X "java/lang/StringLatin1" prog_22_method_23_code 6) (hR : Rm X d) (hr : Rt X (some .int) Φ) : Sn X 31 (w_SL_indexOfChar_31 (AtX X) Φ d) :=
  r_ic (pc := 31) h (by decide +kernel) ⟨by decide, by decide⟩ (r_iret (pc := 32) h hr (by decide +kernel))
def w_SL_indexOfChar_25 (At : Nat → jWp) (Φ : jPh) (d : Nat) : jWp := c_inc 5 1 (At 7)
theorem s_SL_indexOfChar_25 {X : jX} {Φ : jPh} {d : Nat} (h : Cx X "java/lang/StringLatin1" prog_22_method_23_code 6) (hR : Rm X d) (hr : Rt X (some .int) Φ) : Sn X 25 (w_SL_indexOfChar_25 (AtX X) Φ d) :=
  r_inc (pc := 25) h (by decide +kernel) (by decide) (r_goto (pc := 28) (off := -21) h (by decide +kernel) (by decide))
def w_SL_indexOfChar_7 (At : Nat → jWp) (Φ : jPh) (d : Nat) : jWp := c_il 5 (c_il 3 (c_j2 (fun x y => y ≤ x) ((w_SL_indexOfChar_31 At Φ d)) (c_al 0 (c_il 5 (c_sbal (c_il 4 (c_j2 (fun x y => x ≠ y) ((w_SL_indexOfChar_25 At Φ d)) (c_il 5 (c_iret Φ)))))))))
theorem s_SL_indexOfChar_7 {X : jX} {Φ : jPh} {d : Nat} (h : Cx X "java/lang/StringLatin1" prog_22_method_23_code 6) (hR : Rm X d) (hr : Rt X (some .int) Φ) : Sn X 7 (w_SL_indexOfChar_7 (AtX X) Φ d) :=
  r_il (pc := 7) (i := 5) h (by decide +kernel) (r_il0 (pc := 9) (n := 3) h (by decide +kernel) rfl (m_j2 (r_jge (pc := 10) (off := 21) (tgt := 31) h (by decide +kernel) (by decide) (r_al0 (pc := 13) (n := 0) h (by decide +kernel) rfl (r_il (pc := 14) (i := 5) h (by decide +kernel) (r_sbal (pc := 16) h (by decide +kernel) (r_il (pc := 17) (i := 4) h (by decide +kernel) (m_j2 (r_jne (pc := 19) (off := 6) (tgt := 25) h (by decide +kernel) (by decide) (r_il (pc := 22) (i := 5) h (by decide +kernel) (r_iret (pc := 24) h hr (by decide +kernel)))) (s_SL_indexOfChar_25 h hR hr))))))) (s_SL_indexOfChar_31 h hR hr)))
def w_SL_indexOfChar_0 (At : Nat → jWp) (Φ : jPh) (d : Nat) : jWp := c_il 1 (c_b1 jbyt (c_is 4 (c_il 2 (c_is 5 (At 7)))))
theorem s_SL_indexOfChar_0 {X : jX} {Φ : jPh} {d : Nat} (h : Cx X "java/lang/StringLatin1" prog_22_method_23_code 6) (hR : Rm X d) (hr : Rt X (some .int) Φ) : Sn X 0 (w_SL_indexOfChar_0 (AtX X) Φ d) :=
  r_il0 (pc := 0) (n := 1) h (by decide +kernel) rfl (r_i2b (pc := 1) h (by decide +kernel) (r_is (pc := 2) h (by decide +kernel) (by decide) (r_il0 (pc := 4) (n := 2) h (by decide +kernel) rfl (r_is (pc := 5) h (by decide +kernel) (by decide) (r_fall)))))
theorem i_SL_indexOfChar {as : List jV} {σ : jM} {Φ : jPh} {d : Nat} (hlen : (lent as).length ≤ 6) (body : ∀ At : Nat → jWp, (∀ ls st τ, w_SL_indexOfChar_7 At Φ d ls st τ → At 7 ls st τ) → w_SL_indexOfChar_0 At Φ d (lins as 6) [] σ) : Ct (d + 1) M_SL_indexOfChar as σ Φ :=
  Ct.intro (own := "java/lang/StringLatin1") (by decide +kernel) rfl hlen (fun X h hR hr => s_SL_indexOfChar_0 h hR hr _ _ _ (body (AtX X) (s_SL_indexOfChar_7 h hR hr)))
/-! java/util/Arrays.fill([II)V -/
def w_AR_fill_20 (At : Nat → jWp) (Φ : jPh) (d : Nat) : jWp := c_vret Φ
theorem s_AR_fill_20 {X : jX} {Φ : jPh} {d : Nat} (h : Cx X "java/util/Arrays" prog_28_method_103_code 4) (hR : Rm X d) (hr : Rt X none Φ) : Sn X 20 (w_AR_fill_20 (AtX X) Φ d) :=
  r_vret (pc := 20) h hr (by decide +kernel)
def w_AR_fill_5 (At : Nat → jWp) (Φ : jPh) (d : Nat) : jWp := c_il 2 (c_il 3 (c_j2 (fun x y => y ≤ x) ((w_AR_fill_20 At Φ d)) (c_al 0 (c_il 2 (c_il 1 (c_iasg (c_inc 2 1 (At 5))))))))
theorem s_AR_fill_5 {X : jX} {Φ : jPh} {d : Nat} (h : Cx X "java/util/Arrays" prog_28_method_103_code 4) (hR : Rm X d) (hr : Rt X none Φ) : Sn X 5 (w_AR_fill_5 (AtX X) Φ d) :=
  r_il0 (pc := 5) (n := 2) h (by decide +kernel) rfl (r_il0 (pc := 6) (n := 3) h (by decide +kernel) rfl (m_j2 (r_jge (pc := 7) (off := 13) (tgt := 20) h (by decide +kernel) (by decide) (r_al0 (pc := 10) (n := 0) h (by decide +kernel) rfl (r_il0 (pc := 11) (n := 2) h (by decide +kernel) rfl (r_il0 (pc := 12) (n := 1) h (by decide +kernel) rfl (r_iasg (pc := 13) h (by decide +kernel) (r_inc (pc := 14) h (by decide +kernel) (by decide) (r_goto (pc := 17) (off := -12) h (by decide +kernel) (by decide)))))))) (s_AR_fill_20 h hR hr)))
def w_AR_fill_0 (At : Nat → jWp) (Φ : jPh) (d : Nat) : jWp := c_ic 0 (c_is 2 (c_al 0 (c_alen (c_is 3 (At 5)))))
theorem s_AR_fill_0 {X : jX} {Φ : jPh} {d : Nat} (h : Cx X "java/util/Arrays" prog_28_method_103_code 4) (hR : Rm X d) (hr : Rt X none Φ) : Sn X 0 (w_AR_fill_0 (AtX X) Φ d) :=
  r_ic (pc := 0) h (by decide +kernel) ⟨by decide, by decide⟩ (r_is0 (pc := 1) (n := 2) h (by decide +kernel) rfl (by decide) (r_al0 (pc := 2) (n := 0) h (by decide +kernel) rfl (r_alen (pc := 3) h (by decide +kernel) (r_is0 (pc := 4) (n := 3) h (by decide +kernel) rfl (by decide) (r_fall)))))
theorem i_AR_fill {as : List jV} {σ : jM} {Φ : jPh} {d : Nat} (hlen : (lent as).length ≤ 4) (body : ∀ At : Nat → jWp, (∀ ls st τ, w_AR_fill_5 At Φ d ls st τ → At 5 ls st τ) → w_AR_fill_0 At Φ d (lins as 4) [] σ) : Ct (d + 1) M_AR_fill as σ Φ :=
  Ct.intro (own := "java/util/Arrays") (by decide +kernel) rfl hlen (fun X h hR hr => s_AR_fill_0 h hR hr _ _ _ (body (AtX X) (s_AR_fill_5 h hR hr)))
/-! jdk/internal/util/Preconditions.checkFromToIndex(IIILjava/util/function/BiFunction;)I -/
def w_PC_checkFromToIndex_22 (Φ : jPh) (d : Nat) : jWp := c_il 0 (c_iret Φ)
theorem s_PC_checkFromToIndex_22 {X : jX} {Φ : jPh} {d : Nat} (h : Cx X "jdk/internal/util/Preconditions" prog_30_method_12_code 4) (hR : Rm X d) (hr : Rt X (some .int) Φ) : Sn X 22 (w_PC_checkFromToIndex_22 Φ d) :=
  r_il0 (pc := 22) (n := 0) h (by decide +kernel) rfl (r_iret (pc := 23) h hr (by decide +kernel))
def w_PC_checkFromToIndex_14 (Φ : jPh) (d : Nat) : jWp := c_al 3 (c_il 0 (c_il 1 (c_il 2 (c_stop))))
theorem s_PC_checkFromToIndex_14 {X : jX} {Φ : jPh} {d : Nat} (h : Cx X "jdk/internal/util/Preconditions" prog_30_method_12_code 4) (hR : Rm X d) (hr : Rt X (some .int) Φ) : Sn X 14 (w_PC_checkFromToIndex_14 Φ d) :=
  r_al0 (pc := 14) (n := 3) h (by decide +kernel) rfl (r_il0 (pc := 15) (n := 0) h (by decide +kernel) rfl (r_il0 (pc := 16) (n := 1) h (by decide +kernel) rfl (r_il0 (pc := 17) (n := 2) h (by decide +kernel) rfl (r_stop))))
def w_PC_checkFromToIndex_0 (Φ : jPh) (d : Nat) : jWp := c_il 0 (c_j1 (fun x => x < 0) ((w_PC_checkFromToIndex_14 Φ d)) (c_il 0 (c_il 1 (c_j2 (fun x y => y < x) ((w_PC_checkFromToIndex_14 Φ d)) (c_il 1 (c_il 2 (c_j2 (fun x y => x ≤ y) ((w_PC_checkFromToIndex_22 Φ d)) ((w_PC_checkFromToIndex_14 Φ d)))))))))
theorem s_PC_checkFromToIndex_0 {X : jX} {Φ : jPh} {d : Nat} (h : Cx X "jdk/internal/util/Preconditions" prog_30_method_12_code 4) (hR : Rm X d) (hr : Rt X (some .int) Φ) : Sn X 0 (w_PC_checkFromToIndex_0 Φ d) :=
  r_il0 (pc := 0) (n := 0) h (by decide +kernel) rfl (m_j1 (r_iflt (pc := 1) (off := 13) (tgt := 14) h (by decide +kernel) (by decide) (r_il0 (pc := 4) (n := 0) h (by decide +kernel) rfl (r_il0 (pc := 5) (n := 1) h (by decide +kernel) rfl (m_j2 (r_jgt (pc := 6) (off := 8) (tgt := 14) h (by decide +kernel) (by decide) (r_il0 (pc := 9) (n := 1) h (by decide +kernel) rfl (r_il0 (pc := 10) (n := 2) h (by decide +kernel) rfl (m_j2 (r_jle (pc := 11) (off := 11) (tgt := 22) h (by decide +kernel) (by decide) ((s_PC_checkFromToIndex_14 h hR hr))) (s_PC_checkFromToIndex_22 h hR hr))))) (s_PC_checkFromToIndex_14 h hR hr))))) (s_PC_checkFromToIndex_14 h hR hr))
theorem i_PC_checkFromToIndex {as : List jV} {σ : jM} {Φ : jPh} {d : Nat} (hlen : (lent as).length ≤ 4) (body : w_PC_checkFromToIndex_0 Φ d (lins as 4) [] σ) : Ct (d + 1) M_PC_checkFromToIndex as σ Φ :=
  Ct.intro (own := "jdk/internal/util/Preconditions") (by decide +kernel) rfl hlen (fun X h hR hr => s_PC_checkFromToIndex_0 h hR hr _ _ _ (body))
/-! jdk/internal/util/Preconditions.checkIndex(IILjava/util/function/BiFunction;)I -/
def w_PC_checkIndex_16 (Φ : jPh) (d : Nat) : jWp := c_il 0 (c_iret Φ)
theorem s_PC_checkIndex_16 {X : jX} {Φ : jPh} {d : Nat} (h : Cx X "jdk/internal/util/Preconditions" prog_30_method_11_code 3) (hR : Rm X d) (hr : Rt X (some .int) Φ) : Sn X 16 (w_PC_checkIndex_16 Φ d) :=
  r_il0 (pc := 16) (n := 0) h (by decide +kernel) rfl (r_iret (pc := 17) h hr (by decide +kernel))
def w_PC_checkIndex_9 (Φ : jPh) (d : Nat) : jWp := c_al 2 (c_il 0 (c_il 1 (c_stop)))
theorem s_PC_checkIndex_9 {X : jX} {Φ : jPh} {d : Nat} (h : Cx X "jdk/internal/util/Preconditions" prog_30_method_11_code 3) (hR : Rm X d) (hr : Rt X (some .int) Φ) : Sn X 9 (w_PC_checkIndex_9 Φ d) :=
  r_al0 (pc := 9) (n := 2) h (by decide +kernel) rfl (r_il0 (pc := 10) (n := 0) h (by decide +kernel) rfl (r_il0 (pc := 11) (n := 1) h (by decide +kernel) rfl (r_stop)))
def w_PC_checkIndex_0 (Φ : jPh) (d : Nat) : jWp := c_il 0 (c_j1 (fun x => x < 0) ((w_PC_checkIndex_9 Φ d)) (c_il 0 (c_il 1 (c_j2 (fun x y => x < y) ((w_PC_checkIndex_16 Φ d)) ((w_PC_checkIndex_9 Φ d))))))
theorem s_PC_checkIndex_0 {X : jX} {Φ : jPh} {d : Nat} (h : Cx X "jdk/internal/util/Preconditions" prog_30_method_11_code 3) (hR : Rm X d) (hr : Rt X (some .int) Φ) : Sn X 0 (w_PC_checkIndex_0 Φ d) :=
  r_il0 (pc := 0) (n := 0) h (by decide +kernel) rfl (m_j1 (r_iflt (pc := 1) (off := 8) (tgt := 9) h (by decide +kernel) (by decide) (r_il0 (pc := 4) (n := 0) h (by decide +kernel) rfl (r_il0 (pc := 5) (n := 1) h (by decide +kernel) rfl (m_j2 (r_jlt (pc := 6) (off := 10) (tgt := 16) h (by decide +kernel) (by decide) ((s_PC_checkIndex_9 h hR hr))) (s_PC_checkIndex_16 h hR hr))))) (s_PC_checkIndex_9 h hR hr))
theorem i_PC_checkIndex {as : List jV} {σ : jM} {Φ : jPh} {d : Nat} (hlen : (lent as).length ≤ 3) (body : w_PC_checkIndex_0 Φ d (lins as 3) [] σ) : Ct (d + 1) M_PC_checkIndex as σ Φ :=
  Ct.intro (own := "jdk/internal/util/Preconditions") (by decide +kernel) rfl hlen (fun X h hR hr => s_PC_checkIndex_0 h hR hr _ _ _ (body))
