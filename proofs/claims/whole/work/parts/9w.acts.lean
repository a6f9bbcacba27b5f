/-! ===== 9w making: acts ===== -/
def dW (n : Nat) : List (Nat × Nat) := (List.range n).flatMap (fun i => nwD 8 (i + 3))
def nwA : List (Nat × Nat) := (0, 0) :: (20, 0) :: dW 40
theorem dW_succ (n : Nat) : dW (n + 1) = dW n ++ nwD 8 (n + 3) := by
  unfold dW
  rw [List.range_succ, List.flatMap_append, List.flatMap_singleton]
theorem dW_mem {n k i : Nat} : (k, i) ∈ dW n ↔ ∃ t, t < n ∧ (k, i) ∈ nwD 8 (t + 3) := by
  unfold dW
  rw [List.mem_flatMap]
  exact ⟨fun ⟨t, h1, h2⟩ => ⟨t, List.mem_range.mp h1, h2⟩, fun ⟨t, h1, h2⟩ => ⟨t, List.mem_range.mpr h1, h2⟩⟩
theorem nw8_j {k i j : Nat} (h : (k, i) ∈ nwD 8 j) : i = j ∧ (k = 8 ∨ (41 ≤ k ∧ k ≤ 48)) := by
  simp only [nwD, List.mem_cons, Prod.mk.injEq, List.not_mem_nil, or_false] at h
  omega
theorem dW_cin {n : Nat} : ∀ k i, (k, i) ∈ dW n → cin (dW n) k i := by
  intro k i h
  obtain ⟨t, h1, h2⟩ := dW_mem.mp h
  exact (cin_8 k i h2).mono (fun q hq => dW_mem.mpr ⟨t, h1, hq⟩)
theorem dW_br {n : Nat} : ∀ k i, (k, i) ∈ dW n → ∀ o, br k o = none := by
  intro k i h
  obtain ⟨t, h1, h2⟩ := dW_mem.mp h
  exact brn_8 k i h2
section A4
variable {X : jX} {pc cells slots : Nat} {L : List (Nat × Value)} {st : List Value} {ws lo lo2 : va_W} {x y : Nat × va_E}
theorem W_ap (hk : AtW X pc cells slots L st ((ws ++ [x]) ++ y :: lo)) : AtW X pc cells slots L st (ws ++ x :: (y :: lo)) := by
  rw [List.append_assoc, List.singleton_append] at hk
  exact hk
theorem W_ap2 (hk : AtW X pc cells slots L st ((ws ++ [x]) ++ y :: (lo ++ lo2))) : AtW X pc cells slots L st ((ws ++ x :: (y :: lo)) ++ lo2) := by
  have e : (ws ++ x :: (y :: lo)) ++ lo2 = (ws ++ [x]) ++ y :: (lo ++ lo2) := by simp
  rw [e]
  exact hk
theorem W_ap3 (hk : AtW X pc cells slots L st (ws ++ x :: (lo ++ lo2))) : AtW X pc cells slots L st ((ws ++ x :: lo) ++ lo2) := by
  rw [List.append_assoc, List.cons_append]
  exact hk
end A4
def rwA (al : Nat → Nat → Nat) (i : Nat) : Nat → Option Nat := fun o => if o < i then some (al 8 (o + 3)) else none
set_option maxHeartbeats 4000000 in
theorem cn_AC {d : Nat} (l : Launch) (B : jB) (ws : va_W) (h0 : Nat) : Met l M_AC_init.1 [.code M_AC_init.1 M_AC_init.2.1 M_AC_init.2.2.1 M_AC_init.2.2.2] (rmc (d + 2) 361 5080) (PcN B (ws ++ [(h0, .inr (0, [.null, .int 0, .int 0]))]) [.ref h0]) (QcN B (Nw B ws nwA 0 0 h0)) 361 5080 (sysA B) := by
  refine Cn.intro (own := "LosersBooks$Acts") (by decide +kernel) rfl rfl (Nat.le_of_ble_eq_true rfl) (fun X h hI hR hr hrt hB => ?_)
  have hX : ∀ k, (xB X).1 k = B.1 k := fun k => by rw [hB]; rfl
  have hX2 : (xB X).2.2 = B.2.2 := by rw [hB]; rfl
  refine a_al (pc := 0) (n := 0) h (by decide +kernel) rfl (List.mem_cons_self) ?_
  refine a_obj (pc := 1) h hR k_120 k_31 k_32 (by decide +kernel) ?_
  refine a_al (pc := 4) (n := 0) h (by decide +kernel) rfl (List.mem_cons_self) ?_
  refine a_psh (pc := 5) (n := ((40 : Nat) : Int)) (len := 2) h (Or.inr (Or.inl ⟨(by decide +kernel), by decide +kernel, rfl⟩)) ?_
  refine b_newQ (pc := 7) (nr := 40) (c0 := 3) h (by decide) rfl k_121 k_122 (by decide +kernel) (by decide) (hr.le (by decide) (by decide)) (fun hr0 => ?_)
  refine a_putF (pc := 10) (K := 0) (o := 0) h hI (by decide) (by decide) k_124 rfl rfl rfl rfl (Nat.le_of_ble_eq_true rfl) (by decide +kernel) ?_
  refine a_al (pc := 13) (n := 0) h (by decide +kernel) rfl (List.mem_cons_self) ?_
  refine a_psh (pc := 14) (n := 0) (len := 1) h (Or.inl ⟨(by decide +kernel), rfl⟩) ?_
  refine a_put (pc := 15) (K := 0) (o := 1) h (by decide) (by decide) k_125 rfl rfl rfl (Nat.le_of_ble_eq_true rfl) (by decide +kernel) ?_
  refine a_al (pc := 18) (n := 0) h (by decide +kernel) rfl (List.mem_cons_self) ?_
  refine a_psh (pc := 19) (n := 0) (len := 1) h (Or.inl ⟨(by decide +kernel), rfl⟩) ?_
  refine a_put (pc := 20) (K := 0) (o := 2) h (by decide) (by decide) k_126 rfl rfl rfl (Nat.le_of_ble_eq_true rfl) (by decide +kernel) ?_
  refine a_psh (pc := 23) (n := 0) (len := 1) h (Or.inl ⟨(by decide +kernel), rfl⟩) ?_
  refine a_is (pc := 24) (n := 1) (L' := [(1, .int (Int32.ofInt ((0 : Nat) : Int))), (0, .ref h0)]) h (by decide +kernel) rfl (by decide) rfl ?_
  have key : ∀ (n i : Nat) (al : Nat → Nat → Nat), i + n = 40 → (∀ k t, (k, t) ∉ dW i → al k t = B.1 k t) → AtW X 25 (1 + 9 * i) (40 + 126 * i) [(1, .int (Int32.ofInt (i : Int))), (0, .ref h0)] [] (ws ++ (h0, .inr (0, [.ref hr0, .int 0, .int 0])) :: ((hr0, .inl ((xB X).2.2.2.1 3, 40, .inr (.inr (.inr (.inr (rwA al i)))))) :: wld (al, dW i, (xB X).2.2) σI)) := by
    intro n
    induction n with
    | zero =>
      intro i al hi hal
      have hi : i = 40 := by omega
      subst hi
      refine a_il (pc := 25) (n := 1) h (by decide +kernel) rfl (List.mem_cons_self) ?_
      refine a_psh (pc := 26) (n := 40) (len := 2) h (Or.inr (Or.inl ⟨(by decide +kernel), by decide +kernel, rfl⟩)) ?_
      refine a_jge (pc := 28) (off := 22) (tgt := 50) h (by decide +kernel) (by decide) (fun _ => ?_) (fun z => absurd (by decide) z)
      refine W_ap ?_
      refine a_conv (g := fun o => some (al 8 (o + 3))) (fun o ho => by unfold rwA; rw [if_pos ho]) ?_
      refine a_ret (pc := 50) h hrt hB (Nat.le_of_ble_eq_true rfl) (Nat.le_of_ble_eq_true rfl) ?_ (by decide +kernel)
      refine ⟨alU al [((0, 0), h0), ((20, 0), hr0)], fun k t hn => ?_, by simp [alU], fun σ hb => ?_⟩
      · rw [alU_no (fun z => hn (by simp only [List.map_cons, List.map_nil, List.mem_cons, List.not_mem_nil, or_false] at z; rcases z with z | z <;> rw [z] <;> simp [nwA]))]
        exact hal k t (fun z => hn (List.mem_cons_of_mem _ (List.mem_cons_of_mem _ z)))
      · have a0 : alU al [((0, 0), h0), ((20, 0), hr0)] 0 0 = h0 := by simp [alU]
        have a1 : alU al [((0, 0), h0), ((20, 0), hr0)] 20 0 = hr0 := by simp [alU]
        have a8 : ∀ i, alU al [((0, 0), h0), ((20, 0), hr0)] 8 i = al 8 i := fun i => by simp [alU]
        have ag : ∀ k i, (k, i) ∈ dW 40 → alU al [((0, 0), h0), ((20, 0), hr0)] k i = al k i := fun k i hm => by
          obtain ⟨t, -, h2⟩ := dW_mem.mp hm
          have := nw8_j h2
          refine alU_no (fun z => ?_)
          simp only [List.map_cons, List.map_nil, List.mem_cons, Prod.mk.injEq, List.not_mem_nil, or_false] at z
          omega
        have ag9 : ∀ k i, 90 ≤ k → alU al [((0, 0), h0), ((20, 0), hr0)] k i = al k i := fun k i hk => by
          refine alU_no (fun z => ?_)
          simp only [List.map_cons, List.map_nil, List.mem_cons, Prod.mk.injEq, List.not_mem_nil, or_false] at z
          omega
        generalize alU al [((0, 0), h0), ((20, 0), hr0)] = al' at *
        have hbw : ∀ k i, (k, i) ∈ dW 40 → ∀ o, σ.1 k i o = bl k o ∧ σ.2.1 k i o = 0 ∧ σ.2.2 k i o = br k o := fun k i hm => hb (k, i) (List.mem_cons_of_mem _ (List.mem_cons_of_mem _ hm))
        have e1 : wld (al', dW 40, B.2.2) σI = wld (al, dW 40, B.2.2) σI := wld_al (fun k i q => by
          rcases q with q | q
          · exact ag k i q
          · exact ag9 k i (by omega)) (fun j hj => by obtain ⟨t, -, h2⟩ := dW_mem.mp hj; have := nw8_j h2; omega) dW_cin (fun k j hm o i hq => by rw [show σI.2.2 k j o = none from dW_br k j hm o] at hq; cases hq)
        have e2 : wld (al', dW 40, B.2.2) σ = wld (al', dW 40, B.2.2) σI := wld_blk (fun k i hm o => ⟨(hbw k i hm o).1, (hbw k i hm o).2.1, (hbw k i hm o).2.2⟩)
        rw [show nwA = (0, 0) :: (20, 0) :: dW 40 from rfl, wld_cons, wld_cons, e2, e1, hX2, a0, a1, List.append_assoc, List.singleton_append, cel_o (show 0 < 11 by decide), cel_a (show ¬ 20 < 11 by decide)]
        have ef : (List.range (jn 0)).map (fv al' σ 0 0) = [.ref hr0, .int 0, .int 0] := by
          show [fv al' σ 0 0 0, fv al' σ 0 0 1, fv al' σ 0 0 2] = _
          rw [show fv al' σ 0 0 0 = .ref hr0 from congrArg Value.ref a1, show fv al' σ 0 0 1 = .int (Int32.ofInt 0) from congrArg (fun z => Value.int (Int32.ofInt z)) ((hb (0, 0) (by simp [nwA]) 1).1), show fv al' σ 0 0 2 = .int (Int32.ofInt 0) from congrArg (fun z => Value.int (Int32.ofInt z)) ((hb (0, 0) (by simp [nwA]) 2).1)]
          rfl
        have er : ev_ al' σ 20 0 = .inr (.inr (.inr (.inr (fun o => some (al 8 (o + 3)))))) := by
          show Sum.inr (Sum.inr (Sum.inr (Sum.inr (fun o => some (al' 8 (o + 3)))))) = _
          rw [show (fun o => some (al' 8 (o + 3))) = (fun o => some (al 8 (o + 3))) from funext (fun o => by rw [a8])]
        rw [ef, er]
        all_goals rfl
    | succ n ih =>
      intro i al hi hal
      have i40 : i < 40 := by omega
      have ii : inR (i : Int) := ⟨by omega, by omega⟩
      refine a_il (pc := 25) (n := 1) h (by decide +kernel) rfl (List.mem_cons_self) ?_
      refine a_psh (pc := 26) (n := 40) (len := 2) h (Or.inr (Or.inl ⟨(by decide +kernel), by decide +kernel, rfl⟩)) ?_
      refine a_jge (pc := 28) (off := 22) (tgt := 50) h (by decide +kernel) (by decide) (fun z => absurd ((of_le ⟨by decide, by decide⟩ ii).mp z) (by omega)) (fun _ => ?_)
      refine a_al (pc := 31) (n := 0) h (by decide +kernel) rfl (List.mem_cons_of_mem _ List.mem_cons_self) ?_
      refine a_get (pc := 32) (K := 0) (o := 0) (v := .ref hr0) h (by decide) (by decide) k_124 rfl (by decide +kernel) ?_
      refine a_il (pc := 35) (n := 1) h (by decide +kernel) rfl (List.mem_cons_self) ?_
      have f8 : ∀ k t, (k, t) ∈ dW i → (k, t) ∉ nwD 8 (i + 3) := fun k t h1 h2 => by
        obtain ⟨u, h3, h4⟩ := dW_mem.mp h1
        have := nw8_j h4
        have := nw8_j h2
        omega
      refine b_make (pc := 36) (K := 8) (j := i + 3) (al := al) h hR (by decide) k_121 k_62 k_3 dfl_8 v_WO_init (Or.inr ⟨_, k_123⟩) (fun k hk => funext (fun t => ?_)) (fun l B ws h0 => cn_WO l B ws h0) (by decide +kernel) (by decide +kernel) (by decide +kernel) (Nat.le_of_ble_eq_true rfl) (hr.le (by show 1 + 9 * i + 1 + 8 ≤ 361; omega) (by show 40 + 126 * i + 12 + 114 ≤ 5080; omega)) (fun al' g => ?_)
      · rw [hal k t (fun z => by obtain ⟨u, -, h4⟩ := dW_mem.mp z; have := nw8_j h4; omega), hX]
      refine W_ap2 ?_
      refine a_aast (pc := 43) (K := 8) (t0 := 3) (i := i) (vs := (List.range (jn 8)).map (fv al' σI 8 (i + 3))) h (by decide) (by decide) rfl ?_ i40 (by decide) (by decide +kernel) ?_
      · refine List.mem_append_right _ (List.mem_cons_of_mem _ (List.mem_append_right _ ?_))
        exact List.mem_cons_self
      refine a_inc (pc := 44) (n := 1) (k := 0) (v := Int32.ofInt ((i + 1 : Nat) : Int)) (L' := [(1, .int (Int32.ofInt ((i + 1 : Nat) : Int))), (0, .ref h0)]) h (by decide +kernel) rfl (by rw [← Int32.ofInt_add]; rfl) (by decide) rfl ?_
      refine a_goto (pc := 47) (off := -22) (tgt := 25) h (by decide +kernel) (by decide) ?_
      have hstep := ih (i + 1) al' (by omega) (fun k t hn => by
        rw [dW_succ, List.mem_append, not_or] at hn
        rw [g k t hn.2]; exact hal k t hn.1)
      have er : va_up (rwA al i) i (some (al' 8 (i + 3))) = rwA al' (i + 1) := by
        funext o
        unfold va_up rwA
        by_cases z : o = i
        · subst z
          rw [if_pos rfl, if_pos (by omega)]
        · rw [if_neg z]
          by_cases z2 : o < i
          · rw [if_pos z2, if_pos (by omega), g 8 (o + 3) (fun q => by have := nw8_j q; omega)]
          · rw [if_neg z2, if_neg (by omega)]
      have e1 : wld (al', dW i, (xB X).2.2) σI = wld (al, dW i, (xB X).2.2) σI := wld_al (fun k t q => g k t (fun z => by
        rcases q with q | q
        · exact f8 k t q z
        · have := nw8_j z; omega)) (fun j hj => by obtain ⟨t, -, h2⟩ := dW_mem.mp hj; have := nw8_j h2; omega) dW_cin (fun k j hm o i hq => by rw [show σI.2.2 k j o = none from dW_br k j hm o] at hq; cases hq)
      rw [dW_succ, wld_app, e1, ← er] at hstep
      rw [show 1 + 9 * i + 1 + 8 = 1 + 9 * (i + 1) by omega, show 40 + 126 * i + jn 8 + 114 = 40 + 126 * (i + 1) by show 40 + 126 * i + 12 + 114 = 40 + 126 * (i + 1); omega]
      rw [List.append_assoc, List.singleton_append]
      exact hstep
  have hfin := key 40 0 B.1 rfl (fun _ _ _ => rfl)
  have e0 : rwA B.1 0 = fun _ => none := by
    funext o
    unfold rwA
    rw [if_neg (Nat.not_lt_zero o)]
  rw [e0] at hfin
  exact hfin
