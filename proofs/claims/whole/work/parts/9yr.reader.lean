/-! ===== 9yr the reader of laws: made, used, forgotten ===== -/
set_option maxHeartbeats 1000000 in
theorem cn_LR {d : Nat} (l : Launch) (B : jB) (ws : va_W) (h0 tp lw : Nat) : Met l M_LR_init.1 [.code M_LR_init.1 M_LR_init.2.1 M_LR_init.2.2.1 M_LR_init.2.2.2] (rmc (d + 1) 0 0) (PcN B (ws ++ [(h0, .inr (4, [.null, .null]))]) [.ref h0, .ref tp, .ref lw]) (QcN B (fun w => w = ws ++ [(h0, .inr (4, [.ref tp, .ref lw]))])) 0 0 (sysA B) := by
  refine Cn.intro (own := "LosersBooks$LawReader") (by decide +kernel) rfl rfl (Nat.le_of_ble_eq_true rfl) (fun X h hI hR hr hrt hB => ?_)
  refine a_al (pc := 0) (n := 0) h (by decide +kernel) rfl (List.mem_cons_self) ?_
  refine a_obj (pc := 1) h hR k_519 k_31 k_32 (by decide +kernel) ?_
  refine a_al (pc := 4) (n := 0) h (by decide +kernel) rfl (List.mem_cons_self) ?_
  refine a_al (pc := 5) (n := 1) (a := tp) h (by decide +kernel) rfl (List.mem_cons_of_mem _ List.mem_cons_self) ?_
  refine a_putF (pc := 6) (K := 4) (o := 0) h hI (by decide) (by decide) k_520 rfl rfl rfl rfl (Nat.le_of_ble_eq_true rfl) (by decide +kernel) ?_
  refine a_al (pc := 9) (n := 0) h (by decide +kernel) rfl (List.mem_cons_self) ?_
  refine a_al (pc := 10) (n := 2) (a := lw) h (by decide +kernel) rfl (List.mem_cons_of_mem _ (List.mem_cons_of_mem _ List.mem_cons_self)) ?_
  refine a_putF (pc := 11) (K := 4) (o := 1) h hI (by decide) (by decide) k_521 rfl rfl rfl rfl (Nat.le_of_ble_eq_true rfl) (by decide +kernel) ?_
  exact a_ret (pc := 14) h hrt hB (Nat.le_refl 0) (Nat.le_refl 0) rfl (by decide +kernel)
/-- nothing points to a reader -/
theorem tkd4 (k o : Nat) : tkd k o ≠ 4 := by
  unfold tkd
  repeat' split
  all_goals decide
theorem va_P_pre {D : va_G} {cl : List vw_C} {w w' : va_W} {H : Heap} (h : va_P D cl (w ++ w') H) : va_P D cl w H := fun k q hq => h k q (by rw [List.getElem?_append_left (List.getElem?_eq_some_iff.mp hq).1]; exact hq)
theorem va_D_pre {A : Nat → Prop} {w w' : va_W} (h : va_D A (w ++ w')) : va_D A w := by
  have e : ∀ (k : Nat) (q : Nat × va_E), w[k]? = some q → (w ++ w')[k]? = some q := fun k q hq => by rw [List.getElem?_append_left (List.getElem?_eq_some_iff.mp hq).1]; exact hq
  exact ⟨fun i j p q hp hq => h.1 i j p q (e i p hp) (e j q hq), fun k q hq => h.2 k q (e k q hq)⟩
/-- 'new LawReader(tape, lawDraft).readLaw()': what must hold ahead of it -/
def c_read (d : Nat) (k : jWp) : jWp := fun ls st σ => vsz st ≤ 4 ∧ 1 ≤ d ∧ ∃ j9 j : Nat, lget ls 0 = some (.inr (.inr (9, some j9))) ∧ σ.2.2 9 j9 12 = some j ∧ Ct d M_LR_readLaw [.inr (.inr (4, some 0))] (sR σ 4 0 1 (some j)) (fun r τ => ∃ v : Int, r = some (.inl v) ∧ k ls (.inl v :: st) τ)
theorem c_read_in {d : Nat} {k : jWp} {ls : jL} {st : List jV} {σ : jM} {j9 j : Nat} (hv : vsz st ≤ 4) (hd : 1 ≤ d) (h0 : lget ls 0 = some (.inr (.inr (9, some j9)))) (hj : σ.2.2 9 j9 12 = some j) (h : Ct d M_LR_readLaw [.inr (.inr (4, some 0))] (sR σ 4 0 1 (some j)) (fun r τ => ∃ v : Int, r = some (.inl v) ∧ k ls (.inl v :: st) τ)) : c_read d k ls st σ := ⟨hv, hd, j9, j, h0, hj, h⟩
section R11
variable {X : jX} {own : String} {cc : ByteArray} {N pc d : Nat}
set_option maxHeartbeats 1000000 in
theorem r_read {k : jWp} {ixn ixi ixr it il : Nat} (h : Cx X own cc N) (hR : Rm X d) (h1 : Cond.classLink own ixn (jR 4) ∈ lw_tbl) (h2 : Cond.instantiable (jR 4) (jn 4) ∈ lw_tbl) (h3 : Cond.initialized (jR 4) ∈ lw_tbl)
    (ht : Cond.fieldLink own it (jT 9 0).1 (jT 9 0).2.1 (jT 9 0).2.2.1 ∈ lw_tbl) (hlw : Cond.fieldLink own il (jT 9 12).1 (jT 9 12).2.1 (jT 9 12).2.2.1 ∈ lw_tbl) (hi : mlk own ixi M_LR_init) (hrl : mlk own ixr M_LR_readLaw)
    (d1 : decode cc pc = .ok (.new ixn, 3)) (d2 : decode cc (pc + 3) = .ok (.dup, 1)) (d3 : decode cc (pc + 4) = .ok (.aload_n 0, 1)) (d4 : decode cc (pc + 5) = .ok (.getfield it, 3)) (d5 : decode cc (pc + 8) = .ok (.aload_n 0, 1)) (d6 : decode cc (pc + 9) = .ok (.getfield il, 3)) (d7 : decode cc (pc + 12) = .ok (.invokespecial ixi, 3)) (d8 : decode cc (pc + 15) = .ok (.invokevirtual ixr, 3))
    (hf : ∀ j, (4, j) ∉ (xB X).2.1) (hr : Rmx X 1 2) (hk : ∀ X', GX X X' 1 2 → xB X' = xB X → Sn X' (pc + 18) k) : Sn X pc (c_read d k) := by
  obtain ⟨p, l, e, R, s, m, args, below, meth, c, Q, cells, slots, B, nL⟩ := X
  intro ls st σ hw H locs rls hP hS hl hM hs hL
  obtain ⟨h4, hd1, j9, j, hl0, hj, hct⟩ := hw
  obtain ⟨d, rfl⟩ : ∃ d', d = d' + 1 := ⟨d - 1, by omega⟩
  have hC : clo B := h.2.2.2.2.2.2.2.2.2.2
  have hf : ∀ j, (4, j) ∉ B.2.1 := hf
  have o9 : okr B.2.1 9 j9 := by
    have hm : (some (.inr (.inr (9, some j9))) : Option jV) ∈ ls := by
      cases ls with
      | nil => simp [lget] at hl0
      | cons a t =>
        have ha : a = some (.inr (.inr (9, some j9))) := hl0
        rw [ha]
        exact List.mem_cons_self
    exact hL _ hm _ rfl
  have i9 : (9, j9) ∈ B.2.1 := okr_in o9 (by decide)
  have o7 : okr B.2.1 7 0 := by
    rcases hC 9 j9 i9 with ⟨-, z⟩ | ⟨z, -⟩
    · exact z 0 rfl
    · omega
  have o3 : okr B.2.1 3 j := hM.2.2 9 j9 12 j hj
  have ne4 : ∀ {k i : Nat}, okr B.2.1 k i → ¬ (4 = k ∧ 0 = i) := fun q z => by
    rcases q with q | q
    · obtain ⟨rfl, rfl⟩ := z
      exact hf 0 q
    · omega
  -- the walk to the call
  have hmem : (B.1 9 j9, cel B σ 9 j9) ∈ wld B σ := List.mem_map.mpr ⟨(9, j9), i9, rfl⟩
  obtain ⟨w1, w2, ew⟩ := List.append_of_mem hmem
  rw [cel_o (show 9 < 11 by decide)] at ew
  have f0 : ((List.range (jn 9)).map (fv B.1 σ 9 j9))[0]? = some (.ref (B.1 7 0)) := fs_at (n := jn 9) (o := 0) (f := fv B.1 σ 9 j9) (by decide)
  have v12 : fv B.1 σ 9 j9 12 = .ref (B.1 3 j) := by
    show va_rf ((σ.2.2 9 j9 12).map (B.1 3)) = _
    rw [hj]
    rfl
  have f12 : ((List.range (jn 9)).map (fv B.1 σ 9 j9))[12]? = some (.ref (B.1 3 j)) := by
    rw [fs_at (n := jn 9) (o := 12) (by decide), v12]
  have hl0' : (0, Value.ref (B.1 9 j9)) ∈ lmp B.1 0 ls := lmp_get ls 0 0 _ hl0
  obtain ⟨hr1, hr2⟩ := hr
  have key : AtW (p, l, e, R, s, m, args, below, meth, c, Q, cells, slots, B, nL) pc cells slots (lmp B.1 0 ls) (st.map (vr B.1)) (wld B σ) := by
    refine a_new (K := 4) (fs := [.null, .null]) h (by decide) h1 h2 h3 dfl_4 ⟨hr1, hr2⟩ d1 (fun q => ?_)
    have e2 : ∀ y : va_E, wld B σ ++ [(q, y)] = w1 ++ (B.1 9 j9, .inr (9, (List.range (jn 9)).map (fv B.1 σ 9 j9))) :: (w2 ++ [(q, y)]) := fun y => by rw [ew]; simp
    refine a_dup h d2 ?_
    refine a_al (n := 0) (i := 0) (a := B.1 9 j9) h d3 rfl hl0' ?_
    rw [e2]
    refine a_get (K := 9) (o := 0) h (by decide) (by decide) ht f0 d4 ?_
    refine a_al (n := 0) (i := 0) (a := B.1 9 j9) h d5 rfl hl0' ?_
    refine a_get (K := 9) (o := 12) h (by decide) (by decide) hlw f12 d6 ?_
    rw [← e2]
    have h8 : ((Value.ref q :: st.map (vr B.1)).map fun v => v.category).sum ≤ 8 := by
      rw [List.map_cons, List.sum_cons, vsz_sum]
      have : (Value.ref q).category = 1 := rfl
      omega
    refine a_callI (M := M_LR_init) (As := [.ref (B.1 7 0), .ref (B.1 3 j)]) (b := q) (al := B.1) (D := []) (st := .ref q :: st.map (vr B.1)) (mc := 0) (ms := 0) h hR v_LR_init hi (fun _ _ => rfl) (fun l => cn_LR l (B.1, [], B.2.2) (wld B σ) q (B.1 7 0) (B.1 3 j)) rfl h8 ⟨hr1, hr2⟩ d7 (fun w' hw' => ?_)
    have hw' : w' = _ := hw'
    subst hw'
    -- the reader is a thing of the memory now
    have aN : ∀ k i, ¬ (4 = k ∧ 0 = i) → alU B.1 [((4, 0), q)] k i = B.1 k i := fun k i z => by
      show (if 4 = k ∧ 0 = i then q else B.1 k i) = B.1 k i
      rw [if_neg z]
    have a4 : alU B.1 [((4, 0), q)] 4 0 = q := by simp [alU]
    generalize alU B.1 [((4, 0), q)] = al at *
    have hal : ∀ k i, okr B.2.1 k i → al k i = B.1 k i := fun k i z => aN k i (ne4 z)
    have h20 : ∀ o, al 8 (o + 3) = B.1 8 (o + 3) := fun o => aN 8 (o + 3) (by omega)
    have hE : Ext B (al, B.2.1 ++ [(4, 0)], B.2.2) := ⟨rfl, fun k hk => funext (fun i => aN k i (by omega)), hal, fun q hq => List.mem_append_left _ hq, fun k i hm => by
      rcases List.mem_append.mp hm with z | z
      · exact cin.mono (fun q hq => List.mem_append_left _ hq) (hC k i z)
      · cases List.mem_singleton.mp z
        refine Or.inl ⟨by decide, fun o ho => ?_⟩
        unfold ftc at ho
        simp only at ho
        split at ho
        all_goals first | (exact absurd ho (by decide)) | (exact okr_mono (fun q hq => List.mem_append_left _ hq) o7)⟩
    have hM1 : okM (B.2.1 ++ [(4, 0)]) (sR σ 4 0 1 (some j)) := okM_sR ⟨hM.1, hM.2.1, fun k i o t z => okr_mono (fun q hq => List.mem_append_left _ hq) (hM.2.2 k i o t z)⟩ (fun i z => by
      cases z
      exact okr_mono (fun q hq => List.mem_append_left _ hq) o3)
    have ewl : wld (al, B.2.1 ++ [(4, 0)], B.2.2) (sR σ 4 0 1 (some j)) = wld B σ ++ [(q, .inr (4, [.ref (B.1 7 0), .ref (B.1 3 j)]))] := by
      rw [wld_ext (B := B) (B' := (al, B.2.1 ++ [(4, 0)], B.2.2)) (σ := σ) (σ' := sR σ 4 0 1 (some j)) (D' := [(4, 0)]) rfl hal h20 rfl hC hM (fun k i hm o => ⟨rfl, rfl, if_neg (fun z => hf i (by have y := hm; rw [z.1] at y; exact y))⟩)]
      show wld B σ ++ [(al 4 0, cel (al, B.2.1 ++ [(4, 0)], B.2.2) (sR σ 4 0 1 (some j)) 4 0)] = _
      rw [a4, cel_o (show 4 < 11 by decide)]
      have v0 : fv al (sR σ 4 0 1 (some j)) 4 0 0 = .ref (B.1 7 0) := by
        show Value.ref (al 7 0) = _
        rw [hal 7 0 o7]
      have v1 : fv al (sR σ 4 0 1 (some j)) 4 0 1 = .ref (B.1 3 j) := by
        show va_rf ((if 4 = 4 ∧ 0 = 0 ∧ 1 = 1 then some j else σ.2.2 4 0 1).map (al 3)) = _
        rw [if_pos ⟨rfl, rfl, rfl⟩]
        show Value.ref (al 3 j) = _
        rw [hal 3 j o3]
      show wld B σ ++ [(q, Sum.inr (4, [fv al (sR σ 4 0 1 (some j)) 4 0 0, fv al (sR σ 4 0 1 (some j)) 4 0 1]))] = _
      rw [v0, v1]
    have hg : GX (p, l, e, R, s, m, args, below, meth, c, Q, cells, slots, B, nL) (p, l, e, R, s, m, args, below, meth, c, Q, cells + 1, slots + 2, (al, B.2.1 ++ [(4, 0)], B.2.2), nL) 1 2 := ⟨_, hE, rfl⟩
    have call := r_callV (X := (p, l, e, R, s, m, args, below, meth, c, Q, cells + 1, slots + 2, (al, B.2.1 ++ [(4, 0)], B.2.2), nL)) (pc := pc + 15) (d := d + 1) (K := 4) (n := 0) (M := M_LR_readLaw) (k := fun ls' st' τ => ls' = ls ∧ ∃ v : Int, st' = .inl v :: st ∧ k ls (.inl v :: st) τ) (hg.cx h) (hg.rm hR ⟨hr1, hr2⟩) v_LR_readLaw (by decide) hrl d8 (fun ls' st' τ hw => by
      obtain ⟨e1, v, e2, hw⟩ := hw
      rw [e1, e2]
      intro H2 locs2 rls2 hP2 hS2 hl2 hM2 hs2 hL2
      -- and is forgotten
      have hMτ : okM B.2.1 τ := ⟨hM2.1, hM2.2.1, fun k i o t z => by
        rcases hM2.2.2 k i o t z with y | y
        · rcases List.mem_append.mp y with y | y
          · exact Or.inl y
          · exact absurd (congrArg Prod.fst (List.mem_singleton.mp y)) (tkd4 k o)
        · exact Or.inr y⟩
      have ewt : wld (al, B.2.1 ++ [(4, 0)], B.2.2) τ = wld B τ ++ [(4, 0)].map (fun q => (al q.1 q.2, cel (al, B.2.1 ++ [(4, 0)], B.2.2) τ q.1 q.2)) := wld_ext (B := B) (B' := (al, B.2.1 ++ [(4, 0)], B.2.2)) (σ := τ) (σ' := τ) (D' := [(4, 0)]) rfl hal h20 rfl hC hMτ (fun _ _ _ _ => ⟨rfl, rfl, rfl⟩)
      have hPt : Rp B τ H2 := by
        have q1 := hP2.1
        have q2 := hP2.2
        rw [ewt] at q1 q2
        exact ⟨va_P_pre q1, va_D_pre q2⟩
      have kk := hk (p, l, e, R, s, m, args, below, meth, c, Q, cells + 1, slots + 2, B, nL) ⟨B, Ext.rf hC, rfl⟩ rfl ls (.inl v :: st) τ hw H2 locs2 rls2 hPt hS2 (by rw [← lmp_ext hE ls 0 hL]; exact hl2) hMτ (oks_cons (show inR v from oks_hd hs2) hs) hL
      have est : (Sum.inl v :: st : List jV).map (vr al) = (Sum.inl v :: st : List jV).map (vr B.1) := by
        show vr al (.inl v) :: st.map (vr al) = vr B.1 (.inl v) :: st.map (vr B.1)
        rw [st_ext hE hs]
        rfl
      show W p l e R s m args below meth c H2 locs2 (cells + 1) (slots + 2) Q (F0 m (pc + 15 + 3) rls2 ((Sum.inl v :: st : List jV).map (vr al)))
      rw [est]
      exact kk)
    intro H1 locs1 rls1 hP1 hD1 hS1 hl1
    have fin := call ls (.inr (.inr (4, some 0)) :: st) (sR σ 4 0 1 (some j)) ⟨rfl, Nat.le_trans h4 (by decide), Ct.mono hct (fun r τ z => by
      obtain ⟨v, rfl, z⟩ := z
      exact ⟨rfl, v, rfl, z⟩)⟩ H1 locs1 rls1 ⟨by rw [ewl]; exact hP1, by rw [ewl]; exact hD1⟩ hS1 (by rw [lmp_ext hE ls 0 hL]; exact hl1) hM1 (oks_cons (show okr (B.2.1 ++ [(4, 0)]) 4 0 from Or.inl (List.mem_append_right _ (List.mem_singleton.mpr rfl))) (oks_mono hE.2.2.2.1 hs)) (okl_mono hE.2.2.2.1 hL)
    have est : (Sum.inr (Sum.inr (4, some 0)) :: st : List jV).map (vr al) = .ref q :: st.map (vr B.1) := by
      show Value.ref (al 4 0) :: st.map (vr al) = _
      rw [a4]
      congr 1
      exact st_ext hE hs
    rw [est] at fin
    exact fin
  exact key H locs rls hP.1 hP.2 hS hl
end R11
