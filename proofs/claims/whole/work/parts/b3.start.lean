/-! ===== b3 the start: the walk ===== -/
section A5
variable {X : jX} {own : String} {cc : ByteArray} {N pc cells slots : Nat} {L : List (Nat × Value)} {st : List Value} {w : va_W}
theorem a_as {n : Fin 4} {i a : Nat} {L' : List (Nat × Value)} (h : Cx X own cc N) (hd : decode cc pc = .ok (.astore_n n, 1)) (hi : (n : Nat) = i) (hn : i < N) (hl' : (i, Value.ref a) :: L.filter (fun q => !(q.1 == i) && !(q.1 + 1 == i && q.2.category == 2)) = L') (hk : AtW X (pc + 1) cells slots L' st w) : AtW X pc cells slots L (.ref a :: st) w := by
  obtain ⟨p, l, e, R, s, m, args, below, meth, c, Q, c1, c2, B, nL⟩ := X
  obtain ⟨hx, hb, hml, hN, -⟩ := h
  intro H locs rls hP hD hS hl
  exact lv_astore_n hx hb hd hi hl (by rw [hN]; exact hn) hl' (fun rls hl => hk H locs rls hP hD hS hl)
theorem a_isw {i : Nat} {x : Int32} {L' : List (Nat × Value)} (h : Cx X own cc N) (hd : decode cc pc = .ok (.istore i, 2)) (hn : i < N) (hl' : (i, Value.int x) :: L.filter (fun q => !(q.1 == i) && !(q.1 + 1 == i && q.2.category == 2)) = L') (hk : AtW X (pc + 2) cells slots L' st w) : AtW X pc cells slots L (.int x :: st) w := by
  obtain ⟨p, l, e, R, s, m, args, below, meth, c, Q, c1, c2, B, nL⟩ := X
  obtain ⟨hx, hb, hml, hN, -⟩ := h
  intro H locs rls hP hD hS hl
  exact lv_istore hx hb hd hl (by rw [hN]; exact hn) hl' (fun rls hl => hk H locs rls hP hD hS hl)
end A5
theorem whole_start {p : Program} {e : Env} {s : State} {m : MethodId} {below : List Frame} {meth : Method} {c : Code} (l : Launch) (hflags : l.flags = flags0) {b L : Nat} {xs : Nat → Int32} (hL : L ≤ 3072) (C0 : lw_At p s m meth c b L xs) : W p l e room_1 s m #[Value.ref b] below meth c s.heap [] 0 0 (lw_Z below #[Value.ref b] s) (entryFrame m ([Value.ref b] : List Value).toArray 7) := by
  obtain ⟨hx, hb, hr, hml, hown, hts, hX, hbl, hlocks, hgv⟩ := id C0
  have hlt : l.stackTraces = false := by
    unfold Launch.stackTraces
    rw [hflags]
    decide +kernel
  have hs := flat_of_before _ hgv
  obtain ⟨G, ro, hK⟩ := K_of hts
  obtain ⟨al0, h92, hRom⟩ := Rom_of hts hs b (G, ro)
  have cx0 : Cx (LX p l e s m below meth c b (al0, [], G, ro, s.heap.size) 0 0) "LosersBooksLaw" code 7 := ⟨hx, hb, hml, rfl, hown, Tb_of hts, hK _ _ _, Nat.le_refl _, hlocks, hRom, fun k j h => by cases h⟩
  have rm0 : Rm (LX p l e s m below meth c b (al0, [], G, ro, s.heap.size) 0 0) 60 := LX.rm (by decide) (by decide)
  have rmc0 : ∀ u v : Nat, u ≤ 601024 → v ≤ 7293034 → Rmc (LX p l e s m below meth c b (al0, [], G, ro, s.heap.size) 0 0) u v := fun u v h1 h2 => ⟨h1, h2⟩
  have hl := lv_entry ([.ref b]) (n := 7) (Nat.le_of_ble_eq_true rfl)
  rw [lg_entry_eq]
  have key : AtW (LX p l e s m below meth c b (al0, [], G, ro, s.heap.size) 0 0) 0 0 0 [(0, .ref b)] [] [] := by
    refine a_new (pc := 0) (K := 9) (fs := [.null, .int 0, .null, .null, .null, .null, .null, .null, .null, .null, .null, .null, .null, .null, .int 0, .int 0, .int 0, .int 0]) cx0 (by decide) k_25 k_26 k_1 dfl_9 (rmc0 _ _ (by decide) (by decide)) (by decide +kernel) (fun q9 => ?_)
    refine a_dup (pc := 3) cx0 (by decide +kernel) ?_
    refine a_callI (pc := 4) (M := M_LB_init) (As := []) (b := q9) (al := al0) (D := []) (st := [.ref q9]) (mc := 426) (ms := 6210) cx0 rm0 v_LB_init (Or.inl k_27) (fun _ _ => rfl) (fun l => cn_LB (d := 56) l (al0, [], G, ro, s.heap.size) q9) rfl (Nat.le_of_ble_eq_true rfl) (rmc0 _ _ (by decide) (by decide)) (by decide +kernel) (fun w hw => ?_)
    obtain ⟨al1, g90, a9, rfl⟩ := hw
    refine a_as (pc := 7) (n := 1) (L' := [(1, .ref q9), (0, .ref b)]) cx0 (by decide +kernel) rfl (by decide) rfl ?_
    refine a_new (pc := 8) (K := 10) (fs := (.int 0 :: .null :: .null :: .null :: .null :: .null :: .int 0 :: .int 0 :: .int 0 :: .int 0 :: .int 0 :: .int 0 :: .int 0 :: .int 0 :: .int 0 :: .null :: .null :: .int 0 :: .null :: .null :: .null :: .null :: .null :: .null :: .null :: .null :: .int 0 :: .int 0 :: .int 0 :: .int 0 :: .int 0 :: .int 0 :: .null :: .null :: .int 0 :: .int 0 :: .null :: .null :: .null :: .int 0 :: .long 0 :: .null :: .null :: .null :: .int 0 :: .null :: .null :: .int 0 :: [])) cx0 (by decide) k_1106 k_1107 k_11 dfl_10 (rmc0 _ _ (by decide) (by decide)) (by decide +kernel) (fun q10 => ?_)
    refine a_dup (pc := 11) cx0 (by decide +kernel) ?_
    refine a_callI (pc := 12) (M := M_MO_init) (As := []) (b := q10) (al := al1) (D := []) (st := [.ref q10]) (mc := 22) (ms := 30646) cx0 rm0 v_MO_init (Or.inl k_1108) (fun k hk => g90 k hk) (fun l => cn_MO (d := 59) l (al1, [], G, ro, s.heap.size) (wld (al1, nw9, G, ro, s.heap.size) σI) q10) rfl (Nat.le_of_ble_eq_true rfl) (rmc0 _ _ (by decide) (by decide)) (by decide +kernel) (fun w hw => ?_)
    obtain ⟨al2, g2, a10, w2⟩ := hw
    have g2 : ∀ k i, (k, i) ∉ nwM → al2 k i = al1 k i := g2
    rw [w2 σI (Blk_I _), wld_join g2 c9_all m9_all f9M n9M h9M]
    refine a_as (pc := 15) (n := 2) (L' := [(2, .ref q10), (1, .ref q9), (0, .ref b)]) cx0 (by decide +kernel) rfl (by decide) rfl ?_
    refine a_psh (pc := 16) (n := ((1 : Nat) : Int)) (len := 1) cx0 (Or.inl ⟨by decide +kernel, rfl⟩) ?_
    refine a_newL (pc := 17) (nr := 1) cx0 k_1259 (by decide +kernel) (by decide) (rmc0 _ _ (by decide) (by decide)) (fun q51 => ?_)
    have a51 : alU al2 [((51, 0), q51)] 51 0 = q51 := by simp [alU]
    have g3 : ∀ k i, (k, i) ∉ [((51, 0) : Nat × Nat)] → alU al2 [((51, 0), q51)] k i = al2 k i := fun k i hn => alU_no (by simpa using hn)
    have ew : [(q51, (.inl (ro 2, 1, .inr (.inl (fun _ => 0))) : va_E))] = wld (alU al2 [((51, 0), q51)], [(51, 0)], G, ro, s.heap.size) σI := by
      show _ = [(alU al2 [((51, 0), q51)] 51 0, cel (alU al2 [((51, 0), q51)], [(51, 0)], G, ro, s.heap.size) σI 51 0)]
      rw [a51, rowL (k := 51) (j := 0) (by decide) rfl (fun _ => rfl)]
      rfl
    rw [show (xB (LX p l e s m below meth c b (al0, [], G, ro, s.heap.size) 0 0)).2.2.2.1 2 = ro 2 from rfl, ew]
    generalize alU al2 [((51, 0), q51)] = al3 at *
    rw [wld_join g3 cMall mMall f51 (by decide) (fun j hj o z => by simp at z)]
    refine a_as (pc := 19) (n := 3) (L' := [(3, .ref q51), (2, .ref q10), (1, .ref q9), (0, .ref b)]) cx0 (by decide +kernel) rfl (by decide) rfl ?_
    refine a_psh (pc := 20) (n := ((0 : Nat) : Int)) (len := 1) cx0 (Or.inl ⟨by decide +kernel, rfl⟩) ?_
    refine a_isw (pc := 21) (i := 4) (L' := [(4, .int (Int32.ofInt ((0 : Nat) : Int))), (3, .ref q51), (2, .ref q10), (1, .ref q9), (0, .ref b)]) cx0 (by decide +kernel) (by decide) rfl ?_
    have h3_90 : ∀ k, 90 ≤ k → al3 k = al0 k := fun k hk => funext (fun i => by
      rw [g3 k i (by simp; omega), g2 k i (fun z => by have := n9M _ z; simp only at this; omega), g90 k hk])
    have hE : Ext (al0, [], G, ro, s.heap.size) (al3, nwAll, G, ro, s.heap.size) := ⟨rfl, h3_90, fun k i q => by
      rcases q with q | q
      · cases q
      · exact congrFun (h3_90 k (by omega)) i, (fun q hq => by cases hq), cAll⟩
    have cx3 : Cx (LX p l e s m below meth c b (al3, nwAll, G, ro, s.heap.size) 451 36923) "LosersBooksLaw" code 7 := GX.cx (X := LX p l e s m below meth c b (al0, [], G, ro, s.heap.size) 0 0) (u := 451) (v := 36923) ⟨_, hE, by simp [LX]⟩ cx0
    have scr3 : Scr (LX p l e s m below meth c b (al3, nwAll, G, ro, s.heap.size) 451 36923) L xs := by
      have e : al3 92 0 = b := by rw [h3_90 92 (by decide)]; exact h92
      exact ⟨by show va_X (al3 92 0) L xs s s.heap; rw [e]; exact hX, by show al3 92 0 < s.heap.size; rw [e]; exact hbl, rfl, hL⟩
    obtain ⟨s1, s2, hEX⟩ := EX_of (B := (al3, nwAll, G, ro, s.heap.size)) hts hs rfl
    have i9 : al3 9 0 = q9 := by
      rw [g3 9 0 (by decide), g2 9 0 (by decide +kernel)]; exact a9
    have i10 : al3 10 0 = q10 := by rw [g3 10 0 (by decide)]; exact a10
    have i51 : al3 51 0 = q51 := a51
    have i92 : al3 92 0 = b := by rw [h3_90 92 (by decide)]; exact h92
    have lp := law_loop (p := p) (l := l) (e := e) (s := s) (m := m) (below := below) (meth := meth) (c := c) (b := b) (L := L) (xs := xs) (s1 := s1) (s2 := s2) hlt hr hL 512 0 (al3, nwAll, G, ro, s.heap.size) 451 36923 (0, 0) σI none none (by omega) (by omega) cx3 scr3 hEX nwAll_inv (by decide) (by decide) J_0
    intro H locs rls hP hD hS hl
    obtain ⟨n1, n2, n3, n5, n6, n7, n8, n9⟩ := nwAll_in
    refine lp H locs rls ⟨hP, hD⟩ hS ?_ (okM_I n5 n6 n7 n8 n9) oks_nil ?_
    · refine lv_less hl (fun q hq => ?_)
      have hq : q ∈ [(0, Value.ref (al3 92 0)), (1, .ref (al3 9 0)), (2, .ref (al3 10 0)), (3, .ref (al3 51 0)), (4, .int (Int32.ofInt ((0 : Nat) : Int)))] := hq
      rw [i92, i9, i10, i51] at hq
      simp only [List.mem_cons, List.not_mem_nil, or_false] at hq ⊢
      rcases hq with h | h | h | h | h
      · exact Or.inr (Or.inr (Or.inr (Or.inr h)))
      · exact Or.inr (Or.inr (Or.inr (Or.inl h)))
      · exact Or.inr (Or.inr (Or.inl h))
      · exact Or.inr (Or.inl h)
      · exact Or.inl h
    · intro o ho v hv
      simp only [lsL, List.mem_cons, List.not_mem_nil, or_false] at ho
      rcases ho with rfl | rfl | rfl | rfl | rfl | rfl | rfl <;> cases hv
      · exact Or.inr (Or.inr (Or.inr (Or.inl ⟨rfl, rfl⟩)))
      · exact Or.inl n1
      · exact Or.inl n2
      · exact Or.inl n3
      · exact ⟨by decide, by decide⟩
  exact key s.heap [] _ (fun k q h => by simp at h) ⟨fun i j p q h => by simp at h, fun k q h => by simp at h⟩ va_S.rf hl
