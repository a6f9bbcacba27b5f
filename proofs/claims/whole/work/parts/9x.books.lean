/-! ===== 9x making: the whole class (printed by gen/books.py) ===== -/
def tg9 : List (Nat × Nat) := [(7, 0), (7, 0), (49, 0), (50, 0), (8, 0), (8, 1), (8, 2), (0, 0), (6, 0), (2, 0), (5, 0), (5, 1), (3, 0), (1, 0)]
def f9 (t : Nat) (al : Nat → Nat → Nat) : List Value := (List.range 14).map (fun o => if o = 1 then Value.int 0 else if o < t then Value.ref (al (tg9.getD o (0, 0)).1 (tg9.getD o (0, 0)).2) else .null) ++ [.int 0, .int 0, .int 0, .int 0]
theorem f9_al {t : Nat} {al al' : Nat → Nat → Nat} {D : List (Nat × Nat)} (g : ∀ k i, (k, i) ∉ D → al' k i = al k i) (h : ∀ o, o < t → tg9.getD o (0, 0) ∉ D) : f9 t al = f9 t al' := by
  unfold f9
  congr 1
  refine List.map_congr_left (fun o _ => ?_)
  by_cases z1 : o = 1
  · rw [if_pos z1, if_pos z1]
  rw [if_neg z1, if_neg z1]
  by_cases z : o < t
  · rw [if_pos z, if_pos z, g (tg9.getD o (0, 0)).1 (tg9.getD o (0, 0)).2 (h o z)]
  · rw [if_neg z, if_neg z]
theorem cin_app {D0 D : List (Nat × Nat)} (h0 : ∀ k j, (k, j) ∈ D0 → cin D0 k j) (h : ∀ k j, (k, j) ∈ D → cin (D0 ++ D) k j) : ∀ k j, (k, j) ∈ D0 ++ D → cin (D0 ++ D) k j := by
  intro k j hm
  rcases List.mem_append.mp hm with z | z
  · exact (h0 k j z).mono (fun q hq => List.mem_append_left _ hq)
  · exact h k j z
theorem br_app {D0 D : List (Nat × Nat)} (h0 : ∀ k j, (k, j) ∈ D0 → ∀ o i, br k o = some i → okr D0 (tkd k o) i) (h : ∀ k j, (k, j) ∈ D → ∀ o i, br k o = some i → okr (D0 ++ D) (tkd k o) i) : ∀ k j, (k, j) ∈ D0 ++ D → ∀ o i, br k o = some i → okr (D0 ++ D) (tkd k o) i := by
  intro k j hm o i hb
  rcases List.mem_append.mp hm with z | z
  · exact okr_mono (fun q hq => List.mem_append_left _ hq) (h0 k j z o i hb)
  · exact h k j z o i hb
theorem wld_join {r : va_G × (Nat → ClassId) × Nat} {D0 D : List (Nat × Nat)} {al al' : Nat → Nat → Nat} (g : ∀ k i, (k, i) ∉ D → al' k i = al k i) (hC : ∀ k j, (k, j) ∈ D0 → cin D0 k j) (hM : ∀ k j, (k, j) ∈ D0 → ∀ o i, br k o = some i → okr D0 (tkd k o) i) (hf : ∀ q ∈ D0, q ∉ D) (h90 : ∀ q ∈ D, q.1 < 90) (h20 : ∀ j, (20, j) ∈ D0 → ∀ o, (8, o + 3) ∉ D) : wld (al, D0, r) σI ++ wld (al', D, r) σI = wld (al', D0 ++ D, r) σI := by
  have e : wld (al', D0, r) σI = wld (al, D0, r) σI := wld_al (fun k i q => g k i (fun z => by
      rcases q with q | q
      · exact hf _ q z
      · have := h90 _ z
        simp only at this
        omega)) (fun j hj o => g _ _ (h20 j hj o)) hC hM
  rw [wld_app, e]
theorem arr_join {r : va_G × (Nat → ClassId) × Nat} {al : Nat → Nat → Nat} {k0 q : Nat} (hk : ¬ k0 < 11) (he : eTc k0 = 3) (hb : ∀ o, br k0 o = none) : [(q, (.inl (r.2.1 (eCl k0), jln k0 0, .inr (.inr (.inr (.inr (fun _ => none))))) : va_E))] = wld (alU al [((k0, 0), q)], [(k0, 0)], r) σI := by
  have a0 : alU al [((k0, 0), q)] k0 0 = q := by simp [alU]
  show _ = [(alU al [((k0, 0), q)] k0 0, cel (alU al [((k0, 0), q)], [(k0, 0)], r) σI k0 0)]
  rw [a0, cel_a hk]
  have er : ev_ (alU al [((k0, 0), q)]) σI k0 0 = .inr (.inr (.inr (.inr (fun _ => none)))) := by
    unfold ev_
    rw [he]
    show Sum.inr (Sum.inr (Sum.inr (Sum.inr (fun o => (br k0 o).map (alU al [((k0, 0), q)] (tkd k0 o)))))) = _
    rw [show (fun o => (br k0 o).map (alU al [((k0, 0), q)] (tkd k0 o))) = (fun _ => none) from funext (fun o => by rw [hb]; rfl)]
  show _ = [(q, Sum.inl (r.2.1 (eCl k0), jln k0 0, ev_ (alU al [((k0, 0), q)]) σI k0 0))]
  rw [er]
def e9_0 : List (Nat × Nat) := []
theorem c9_0 : ∀ k j, (k, j) ∈ e9_0 → cin e9_0 k j := fun k j h => by cases h
theorem m9_0 : ∀ k j, (k, j) ∈ e9_0 → ∀ o i, br k o = some i → okr e9_0 (tkd k o) i := fun k j h => by cases h
def e9_1 : List (Nat × Nat) := e9_0 ++ nwD 7 0
theorem c9_1 : ∀ k j, (k, j) ∈ e9_1 → cin e9_1 k j := cin_app c9_0 (fun k j h => (cin_7 k j h).mono (fun q hq => List.mem_append_right _ hq))
theorem m9_1 : ∀ k j, (k, j) ∈ e9_1 → ∀ o i, br k o = some i → okr e9_1 (tkd k o) i := br_app m9_0 (fun k j h o i hb => by rw [brn_7 k j h o] at hb; cases hb)
theorem f9_0 : ∀ q ∈ e9_0, q ∉ nwD 7 0 := by decide +kernel
theorem n9_0 : ∀ q ∈ nwD 7 0, q.1 < 90 := by decide +kernel
theorem h9_0 : ∀ j, (20, j) ∈ e9_0 → ∀ o, (8, o + 3) ∉ nwD 7 0 := fun _ _ o z => by simp [nwD] at z
theorem u9_0 : ∀ o, o < 0 → tg9.getD o (0, 0) ∉ nwD 7 0 := by decide +kernel
def e9_2 : List (Nat × Nat) := e9_1 ++ [(49, 0)]
theorem c9_2 : ∀ k j, (k, j) ∈ e9_2 → cin e9_2 k j := cin_app c9_1 (fun k j h => by cases List.mem_singleton.mp h; exact Or.inr ⟨by decide, by decide, by decide, fun e => absurd e (by decide)⟩)
theorem m9_2 : ∀ k j, (k, j) ∈ e9_2 → ∀ o i, br k o = some i → okr e9_2 (tkd k o) i := br_app m9_1 (fun k j h o i hb => by cases List.mem_singleton.mp h; cases hb)
theorem f9_1 : ∀ q ∈ e9_1, q ∉ [(49, 0)] := by decide +kernel
theorem n9_1 : ∀ q ∈ [(49, 0)], q.1 < 90 := by decide +kernel
theorem h9_1 : ∀ j, (20, j) ∈ e9_1 → ∀ o, (8, o + 3) ∉ [(49, 0)] := fun _ _ o z => by simp [nwD] at z
theorem u9_1 : ∀ o, o < 2 → tg9.getD o (0, 0) ∉ [(49, 0)] := by decide +kernel
def e9_3 : List (Nat × Nat) := e9_2 ++ [(50, 0)]
theorem c9_3 : ∀ k j, (k, j) ∈ e9_3 → cin e9_3 k j := cin_app c9_2 (fun k j h => by cases List.mem_singleton.mp h; exact Or.inr ⟨by decide, by decide, by decide, fun e => absurd e (by decide)⟩)
theorem m9_3 : ∀ k j, (k, j) ∈ e9_3 → ∀ o i, br k o = some i → okr e9_3 (tkd k o) i := br_app m9_2 (fun k j h o i hb => by cases List.mem_singleton.mp h; cases hb)
theorem f9_2 : ∀ q ∈ e9_2, q ∉ [(50, 0)] := by decide +kernel
theorem n9_2 : ∀ q ∈ [(50, 0)], q.1 < 90 := by decide +kernel
theorem h9_2 : ∀ j, (20, j) ∈ e9_2 → ∀ o, (8, o + 3) ∉ [(50, 0)] := fun _ _ o z => by simp [nwD] at z
theorem u9_2 : ∀ o, o < 3 → tg9.getD o (0, 0) ∉ [(50, 0)] := by decide +kernel
def e9_4 : List (Nat × Nat) := e9_3 ++ nwD 8 0
theorem c9_4 : ∀ k j, (k, j) ∈ e9_4 → cin e9_4 k j := cin_app c9_3 (fun k j h => (cin_8 k j h).mono (fun q hq => List.mem_append_right _ hq))
theorem m9_4 : ∀ k j, (k, j) ∈ e9_4 → ∀ o i, br k o = some i → okr e9_4 (tkd k o) i := br_app m9_3 (fun k j h o i hb => by rw [brn_8 k j h o] at hb; cases hb)
theorem f9_3 : ∀ q ∈ e9_3, q ∉ nwD 8 0 := by decide +kernel
theorem n9_3 : ∀ q ∈ nwD 8 0, q.1 < 90 := by decide +kernel
theorem h9_3 : ∀ j, (20, j) ∈ e9_3 → ∀ o, (8, o + 3) ∉ nwD 8 0 := fun _ _ o z => by have := nw8_j z; omega
theorem u9_3 : ∀ o, o < 4 → tg9.getD o (0, 0) ∉ nwD 8 0 := by decide +kernel
def e9_5 : List (Nat × Nat) := e9_4 ++ nwD 8 1
theorem c9_5 : ∀ k j, (k, j) ∈ e9_5 → cin e9_5 k j := cin_app c9_4 (fun k j h => (cin_8 k j h).mono (fun q hq => List.mem_append_right _ hq))
theorem m9_5 : ∀ k j, (k, j) ∈ e9_5 → ∀ o i, br k o = some i → okr e9_5 (tkd k o) i := br_app m9_4 (fun k j h o i hb => by rw [brn_8 k j h o] at hb; cases hb)
theorem f9_4 : ∀ q ∈ e9_4, q ∉ nwD 8 1 := by decide +kernel
theorem n9_4 : ∀ q ∈ nwD 8 1, q.1 < 90 := by decide +kernel
theorem h9_4 : ∀ j, (20, j) ∈ e9_4 → ∀ o, (8, o + 3) ∉ nwD 8 1 := fun _ _ o z => by have := nw8_j z; omega
theorem u9_4 : ∀ o, o < 5 → tg9.getD o (0, 0) ∉ nwD 8 1 := by decide +kernel
def e9_6 : List (Nat × Nat) := e9_5 ++ nwD 8 2
theorem c9_6 : ∀ k j, (k, j) ∈ e9_6 → cin e9_6 k j := cin_app c9_5 (fun k j h => (cin_8 k j h).mono (fun q hq => List.mem_append_right _ hq))
theorem m9_6 : ∀ k j, (k, j) ∈ e9_6 → ∀ o i, br k o = some i → okr e9_6 (tkd k o) i := br_app m9_5 (fun k j h o i hb => by rw [brn_8 k j h o] at hb; cases hb)
theorem f9_5 : ∀ q ∈ e9_5, q ∉ nwD 8 2 := by decide +kernel
theorem n9_5 : ∀ q ∈ nwD 8 2, q.1 < 90 := by decide +kernel
theorem h9_5 : ∀ j, (20, j) ∈ e9_5 → ∀ o, (8, o + 3) ∉ nwD 8 2 := fun _ _ o z => by have := nw8_j z; omega
theorem u9_5 : ∀ o, o < 6 → tg9.getD o (0, 0) ∉ nwD 8 2 := by decide +kernel
def e9_7 : List (Nat × Nat) := e9_6 ++ nwA
theorem c9_7 : ∀ k j, (k, j) ∈ e9_7 → cin e9_7 k j := cin_app c9_6 (fun k j h => by
  rcases List.mem_cons.mp h with e | h
  · cases e
    refine Or.inl ⟨by decide, fun o ho => ?_⟩
    unfold ftc at ho
    simp only at ho
    split at ho
    all_goals first | (exact absurd ho (by decide)) | (exact Or.inl (by decide +kernel))
  rcases List.mem_cons.mp h with e | h
  · cases e
    refine Or.inr ⟨by decide, by decide, by decide, fun _ o ho => Or.inl (List.mem_append_right _ (List.mem_cons_of_mem _ (List.mem_cons_of_mem _ (dW_mem.mpr ⟨o, ho, List.mem_cons_self⟩))))⟩
  · exact (dW_cin k j h).mono (fun q hq => List.mem_append_right _ (List.mem_cons_of_mem _ (List.mem_cons_of_mem _ hq))))
theorem m9_7 : ∀ k j, (k, j) ∈ e9_7 → ∀ o i, br k o = some i → okr e9_7 (tkd k o) i := br_app m9_6 (fun k j h o i hb => by
  rcases List.mem_cons.mp h with e | h
  · cases e; cases hb
  rcases List.mem_cons.mp h with e | h
  · cases e; cases hb
  · rw [dW_br k j h o] at hb
    cases hb)
theorem f9_6 : ∀ q ∈ e9_6, q ∉ nwA := by decide +kernel
theorem n9_6 : ∀ q ∈ nwA, q.1 < 90 := by decide +kernel
theorem h9_6 : ∀ j, (20, j) ∈ e9_6 → ∀ o, (8, o + 3) ∉ nwA := fun j hj => by
  exfalso
  revert hj
  simp [e9_0, e9_1, e9_2, e9_3, e9_4, e9_5, e9_6, nwD]
theorem u9_6 : ∀ o, o < 7 → tg9.getD o (0, 0) ∉ nwA := by decide +kernel
def e9_8 : List (Nat × Nat) := e9_7 ++ nwD 6 0
theorem c9_8 : ∀ k j, (k, j) ∈ e9_8 → cin e9_8 k j := cin_app c9_7 (fun k j h => (cin_6 k j h).mono (fun q hq => List.mem_append_right _ hq))
theorem m9_8 : ∀ k j, (k, j) ∈ e9_8 → ∀ o i, br k o = some i → okr e9_8 (tkd k o) i := br_app m9_7 (fun k j h o i hb => by rw [brn_6 k j h o] at hb; cases hb)
theorem f9_7 : ∀ q ∈ e9_7, q ∉ nwD 6 0 := by decide +kernel
theorem n9_7 : ∀ q ∈ nwD 6 0, q.1 < 90 := by decide +kernel
theorem h9_7 : ∀ j, (20, j) ∈ e9_7 → ∀ o, (8, o + 3) ∉ nwD 6 0 := fun _ _ o z => by simp [nwD] at z
theorem u9_7 : ∀ o, o < 8 → tg9.getD o (0, 0) ∉ nwD 6 0 := by decide +kernel
def e9_9 : List (Nat × Nat) := e9_8 ++ nwD 2 0
theorem c9_9 : ∀ k j, (k, j) ∈ e9_9 → cin e9_9 k j := cin_app c9_8 (fun k j h => (cin_2 k j h).mono (fun q hq => List.mem_append_right _ hq))
theorem m9_9 : ∀ k j, (k, j) ∈ e9_9 → ∀ o i, br k o = some i → okr e9_9 (tkd k o) i := br_app m9_8 (fun k j h o i hb => by rw [brn_2 k j h o] at hb; cases hb)
theorem f9_8 : ∀ q ∈ e9_8, q ∉ nwD 2 0 := by decide +kernel
theorem n9_8 : ∀ q ∈ nwD 2 0, q.1 < 90 := by decide +kernel
theorem h9_8 : ∀ j, (20, j) ∈ e9_8 → ∀ o, (8, o + 3) ∉ nwD 2 0 := fun _ _ o z => by simp [nwD] at z
theorem u9_8 : ∀ o, o < 9 → tg9.getD o (0, 0) ∉ nwD 2 0 := by decide +kernel
def e9_10 : List (Nat × Nat) := e9_9 ++ nwD 5 0
theorem c9_10 : ∀ k j, (k, j) ∈ e9_10 → cin e9_10 k j := cin_app c9_9 (fun k j h => (cin_5 k j h).mono (fun q hq => List.mem_append_right _ hq))
theorem m9_10 : ∀ k j, (k, j) ∈ e9_10 → ∀ o i, br k o = some i → okr e9_10 (tkd k o) i := br_app m9_9 (fun k j h o i hb => by rw [brn_5 k j h o] at hb; cases hb)
theorem f9_9 : ∀ q ∈ e9_9, q ∉ nwD 5 0 := by decide +kernel
theorem n9_9 : ∀ q ∈ nwD 5 0, q.1 < 90 := by decide +kernel
theorem h9_9 : ∀ j, (20, j) ∈ e9_9 → ∀ o, (8, o + 3) ∉ nwD 5 0 := fun _ _ o z => by simp [nwD] at z
theorem u9_9 : ∀ o, o < 10 → tg9.getD o (0, 0) ∉ nwD 5 0 := by decide +kernel
def e9_11 : List (Nat × Nat) := e9_10 ++ nwD 5 1
theorem c9_11 : ∀ k j, (k, j) ∈ e9_11 → cin e9_11 k j := cin_app c9_10 (fun k j h => (cin_5 k j h).mono (fun q hq => List.mem_append_right _ hq))
theorem m9_11 : ∀ k j, (k, j) ∈ e9_11 → ∀ o i, br k o = some i → okr e9_11 (tkd k o) i := br_app m9_10 (fun k j h o i hb => by rw [brn_5 k j h o] at hb; cases hb)
theorem f9_10 : ∀ q ∈ e9_10, q ∉ nwD 5 1 := by decide +kernel
theorem n9_10 : ∀ q ∈ nwD 5 1, q.1 < 90 := by decide +kernel
theorem h9_10 : ∀ j, (20, j) ∈ e9_10 → ∀ o, (8, o + 3) ∉ nwD 5 1 := fun _ _ o z => by simp [nwD] at z
theorem u9_10 : ∀ o, o < 11 → tg9.getD o (0, 0) ∉ nwD 5 1 := by decide +kernel
def e9_12 : List (Nat × Nat) := e9_11 ++ nwD 3 0
theorem c9_12 : ∀ k j, (k, j) ∈ e9_12 → cin e9_12 k j := cin_app c9_11 (fun k j h => (cin_3 k j h).mono (fun q hq => List.mem_append_right _ hq))
theorem m9_12 : ∀ k j, (k, j) ∈ e9_12 → ∀ o i, br k o = some i → okr e9_12 (tkd k o) i := br_app m9_11 (fun k j h o i hb => by rw [brn_3 k j h o] at hb; cases hb)
theorem f9_11 : ∀ q ∈ e9_11, q ∉ nwD 3 0 := by decide +kernel
theorem n9_11 : ∀ q ∈ nwD 3 0, q.1 < 90 := by decide +kernel
theorem h9_11 : ∀ j, (20, j) ∈ e9_11 → ∀ o, (8, o + 3) ∉ nwD 3 0 := fun _ _ o z => by simp [nwD] at z
theorem u9_11 : ∀ o, o < 12 → tg9.getD o (0, 0) ∉ nwD 3 0 := by decide +kernel
def e9_13 : List (Nat × Nat) := e9_12 ++ nwD 1 0
theorem c9_13 : ∀ k j, (k, j) ∈ e9_13 → cin e9_13 k j := cin_app c9_12 (fun k j h => (cin_1 k j h).mono (fun q hq => List.mem_append_right _ hq))
theorem m9_13 : ∀ k j, (k, j) ∈ e9_13 → ∀ o i, br k o = some i → okr e9_13 (tkd k o) i := br_app m9_12 (fun k j h o i hb => by rw [brn_1 k j h o] at hb; cases hb)
theorem f9_12 : ∀ q ∈ e9_12, q ∉ nwD 1 0 := by decide +kernel
theorem n9_12 : ∀ q ∈ nwD 1 0, q.1 < 90 := by decide +kernel
theorem h9_12 : ∀ j, (20, j) ∈ e9_12 → ∀ o, (8, o + 3) ∉ nwD 1 0 := fun _ _ o z => by simp [nwD] at z
theorem u9_12 : ∀ o, o < 13 → tg9.getD o (0, 0) ∉ nwD 1 0 := by decide +kernel
def nw9 : List (Nat × Nat) := (9, 0) :: e9_13
theorem z9_9 : (9, 0) ∉ e9_13 := by decide +kernel
set_option maxHeartbeats 10000000 in
theorem cn_LB {d : Nat} (l : Launch) (B : jB) (h0 : Nat) : Met l M_LB_init.1 [.code M_LB_init.1 M_LB_init.2.1 M_LB_init.2.2.1 M_LB_init.2.2.2] (rmc (d + 4) 426 6210) (PcN B [(h0, .inr (9, [.null, .int 0, .null, .null, .null, .null, .null, .null, .null, .null, .null, .null, .null, .null, .int 0, .int 0, .int 0, .int 0]))] [.ref h0]) (QcN B (fun w => ∃ al : Nat → Nat → Nat, (∀ k, 90 ≤ k → al k = B.1 k) ∧ al 9 0 = h0 ∧ w = wld (al, nw9, B.2.2) σI)) 426 6210 (sysA B) := by
  refine Cn.intro (own := "LosersBooks") (by decide +kernel) rfl rfl (Nat.le_of_ble_eq_true rfl) (fun X h hI hR hr hrt hB => ?_)
  have hX : ∀ k, (xB X).1 k = B.1 k := fun k => by rw [hB]; rfl
  have hX2 : (xB X).2.2 = B.2.2 := by rw [hB]; rfl
  refine a_al (pc := 0) (n := 0) h (by decide +kernel) rfl (List.mem_cons_self) ?_
  refine a_obj (pc := 1) h hR k_30 k_31 k_32 (by decide +kernel) ?_
  obtain ⟨al0, hal0⟩ : ∃ al0 : Nat → Nat → Nat, ∀ k, 90 ≤ k → al0 k = (xB X).1 k := ⟨_, fun _ _ => rfl⟩
  show AtW X 4 0 0 _ [] ((h0, .inr (9, f9 0 al0)) :: wld (al0, e9_0, (xB X).2.2) σI)
  refine a_al (pc := 4) (n := 0) h (by decide +kernel) rfl (List.mem_cons_self) ?_
  refine g_make (pc := 5) (K := 7) (j := 0) (D0 := e9_0) (D := nwD 7 0) (al := al0) (x := (h0, .inr (9, f9 0 al0))) h hR (by decide) k_33 k_34 k_2 dfl_7 v_TA_init (Or.inr ⟨_, k_35⟩) hal0 (fun l B ws h0 => cn_TA l B ws h0) (by decide +kernel) (by decide +kernel) (by decide +kernel) (Nat.le_of_ble_eq_true rfl) (hr.le (by decide) (by decide)) c9_0 m9_0 f9_0 n9_0 h9_0 (fun al1 g1 hal1 => ?_)
  rw [f9_al g1 u9_0]
  refine a_putF (pc := 12) (K := 9) (o := 0) (ws := []) h hI (by decide) (by decide) k_290 rfl rfl rfl rfl (Nat.le_of_ble_eq_true rfl) (by decide +kernel) ?_
  show AtW X 15 2 244 _ [] ((h0, .inr (9, f9 2 al1)) :: wld (al1, e9_1, (xB X).2.2) σI)
  refine a_al (pc := 15) (n := 0) h (by decide +kernel) rfl (List.mem_cons_self) ?_
  refine a_psh (pc := 16) (n := ((4 : Nat) : Int)) (len := 1) h (Or.inl ⟨(by decide +kernel), rfl⟩) ?_
  refine b_newQ (pc := 17) (nr := 4) (c0 := 4) (ws := []) (x := (h0, .inr (9, f9 2 al1))) (lo := wld (al1, e9_1, (xB X).2.2) σI) h (by decide) rfl k_57 k_58 (by decide +kernel) (by decide) (hr.le (by decide) (by decide)) (fun q1 => ?_)
  rw [show [(q1, (.inl ((xB X).2.2.2.1 4, 4, .inr (.inr (.inr (.inr (fun _ => none))))) : va_E))] = wld (alU al1 [((49, 0), q1)], [(49, 0)], (xB X).2.2) σI from arr_join (k0 := 49) (by decide) rfl (fun _ => rfl)]
  have g2 : ∀ k i, (k, i) ∉ [(49, 0)] → alU al1 [((49, 0), q1)] k i = al1 k i := fun k i hn => alU_no (by simpa using hn)
  have a2 : alU al1 [((49, 0), q1)] 49 0 = q1 := by simp [alU]
  generalize alU al1 [((49, 0), q1)] = al2 at *
  have hal2 : ∀ k, 90 ≤ k → al2 k = (xB X).1 k := fun k hk => funext (fun i => by rw [g2 k i (by simp; omega), hal1 k hk])
  rw [wld_join g2 c9_1 m9_1 f9_1 n9_1 h9_1, ← a2]
  rw [f9_al g2 u9_1]
  refine a_putF (pc := 20) (K := 9) (o := 2) (ws := []) h hI (by decide) (by decide) k_291 rfl rfl rfl rfl (Nat.le_of_ble_eq_true rfl) (by decide +kernel) ?_
  show AtW X 23 3 248 _ [] ((h0, .inr (9, f9 3 al2)) :: wld (al2, e9_2, (xB X).2.2) σI)
  refine a_al (pc := 23) (n := 0) h (by decide +kernel) rfl (List.mem_cons_self) ?_
  refine a_psh (pc := 24) (n := ((4 : Nat) : Int)) (len := 1) h (Or.inl ⟨(by decide +kernel), rfl⟩) ?_
  refine b_newQ (pc := 25) (nr := 4) (c0 := 5) (ws := []) (x := (h0, .inr (9, f9 3 al2))) (lo := wld (al2, e9_2, (xB X).2.2) σI) h (by decide) rfl k_59 k_60 (by decide +kernel) (by decide) (hr.le (by decide) (by decide)) (fun q2 => ?_)
  rw [show [(q2, (.inl ((xB X).2.2.2.1 5, 4, .inr (.inr (.inr (.inr (fun _ => none))))) : va_E))] = wld (alU al2 [((50, 0), q2)], [(50, 0)], (xB X).2.2) σI from arr_join (k0 := 50) (by decide) rfl (fun _ => rfl)]
  have g3 : ∀ k i, (k, i) ∉ [(50, 0)] → alU al2 [((50, 0), q2)] k i = al2 k i := fun k i hn => alU_no (by simpa using hn)
  have a3 : alU al2 [((50, 0), q2)] 50 0 = q2 := by simp [alU]
  generalize alU al2 [((50, 0), q2)] = al3 at *
  have hal3 : ∀ k, 90 ≤ k → al3 k = (xB X).1 k := fun k hk => funext (fun i => by rw [g3 k i (by simp; omega), hal2 k hk])
  rw [wld_join g3 c9_2 m9_2 f9_2 n9_2 h9_2, ← a3]
  rw [f9_al g3 u9_2]
  refine a_putF (pc := 28) (K := 9) (o := 3) (ws := []) h hI (by decide) (by decide) k_292 rfl rfl rfl rfl (Nat.le_of_ble_eq_true rfl) (by decide +kernel) ?_
  show AtW X 31 4 252 _ [] ((h0, .inr (9, f9 4 al3)) :: wld (al3, e9_3, (xB X).2.2) σI)
  refine a_al (pc := 31) (n := 0) h (by decide +kernel) rfl (List.mem_cons_self) ?_
  refine g_make (pc := 32) (K := 8) (j := 0) (D0 := e9_3) (D := nwD 8 0) (al := al3) (x := (h0, .inr (9, f9 4 al3))) h hR (by decide) k_61 k_62 k_3 dfl_8 v_WO_init (Or.inr ⟨_, k_63⟩) hal3 (fun l B ws h0 => cn_WO l B ws h0) (by decide +kernel) (by decide +kernel) (by decide +kernel) (Nat.le_of_ble_eq_true rfl) (hr.le (by decide) (by decide)) c9_3 m9_3 f9_3 n9_3 h9_3 (fun al4 g4 hal4 => ?_)
  rw [f9_al g4 u9_3]
  refine a_putF (pc := 39) (K := 9) (o := 4) (ws := []) h hI (by decide) (by decide) k_293 rfl rfl rfl rfl (Nat.le_of_ble_eq_true rfl) (by decide +kernel) ?_
  show AtW X 42 13 378 _ [] ((h0, .inr (9, f9 5 al4)) :: wld (al4, e9_4, (xB X).2.2) σI)
  refine a_al (pc := 42) (n := 0) h (by decide +kernel) rfl (List.mem_cons_self) ?_
  refine g_make (pc := 43) (K := 8) (j := 1) (D0 := e9_4) (D := nwD 8 1) (al := al4) (x := (h0, .inr (9, f9 5 al4))) h hR (by decide) k_61 k_62 k_3 dfl_8 v_WO_init (Or.inr ⟨_, k_63⟩) hal4 (fun l B ws h0 => cn_WO l B ws h0) (by decide +kernel) (by decide +kernel) (by decide +kernel) (Nat.le_of_ble_eq_true rfl) (hr.le (by decide) (by decide)) c9_4 m9_4 f9_4 n9_4 h9_4 (fun al5 g5 hal5 => ?_)
  rw [f9_al g5 u9_4]
  refine a_putF (pc := 50) (K := 9) (o := 5) (ws := []) h hI (by decide) (by decide) k_294 rfl rfl rfl rfl (Nat.le_of_ble_eq_true rfl) (by decide +kernel) ?_
  show AtW X 53 22 504 _ [] ((h0, .inr (9, f9 6 al5)) :: wld (al5, e9_5, (xB X).2.2) σI)
  refine a_al (pc := 53) (n := 0) h (by decide +kernel) rfl (List.mem_cons_self) ?_
  refine g_make (pc := 54) (K := 8) (j := 2) (D0 := e9_5) (D := nwD 8 2) (al := al5) (x := (h0, .inr (9, f9 6 al5))) h hR (by decide) k_61 k_62 k_3 dfl_8 v_WO_init (Or.inr ⟨_, k_63⟩) hal5 (fun l B ws h0 => cn_WO l B ws h0) (by decide +kernel) (by decide +kernel) (by decide +kernel) (Nat.le_of_ble_eq_true rfl) (hr.le (by decide) (by decide)) c9_5 m9_5 f9_5 n9_5 h9_5 (fun al6 g6 hal6 => ?_)
  rw [f9_al g6 u9_5]
  refine a_putF (pc := 61) (K := 9) (o := 6) (ws := []) h hI (by decide) (by decide) k_295 rfl rfl rfl rfl (Nat.le_of_ble_eq_true rfl) (by decide +kernel) ?_
  show AtW X 64 31 630 _ [] ((h0, .inr (9, f9 7 al6)) :: wld (al6, e9_6, (xB X).2.2) σI)
  refine a_al (pc := 64) (n := 0) h (by decide +kernel) rfl (List.mem_cons_self) ?_
  refine g_make (pc := 65) (K := 0) (j := 0) (D0 := e9_6) (D := nwA) (al := al6) (x := (h0, .inr (9, f9 7 al6))) h hR (by decide) k_115 k_116 k_4 dfl_0 v_AC_init (Or.inl k_117) hal6 (fun l B ws h0 => cn_AC l B ws h0) (by decide +kernel) (by decide +kernel) (by decide +kernel) (Nat.le_of_ble_eq_true rfl) (hr.le (by decide) (by decide)) c9_6 m9_6 f9_6 n9_6 h9_6 (fun al7 g7 hal7 => ?_)
  rw [f9_al g7 u9_6]
  refine a_putF (pc := 72) (K := 9) (o := 7) (ws := []) h hI (by decide) (by decide) k_296 rfl rfl rfl rfl (Nat.le_of_ble_eq_true rfl) (by decide +kernel) ?_
  show AtW X 75 393 5713 _ [] ((h0, .inr (9, f9 8 al7)) :: wld (al7, e9_7, (xB X).2.2) σI)
  refine a_al (pc := 75) (n := 0) h (by decide +kernel) rfl (List.mem_cons_self) ?_
  refine g_make (pc := 76) (K := 6) (j := 0) (D0 := e9_7) (D := nwD 6 0) (al := al7) (x := (h0, .inr (9, f9 8 al7))) h hR (by decide) k_135 k_136 k_5 dfl_6 v_RU_init (Or.inr ⟨_, k_137⟩) hal7 (fun l B ws h0 => cn_RU l B ws h0) (by decide +kernel) (by decide +kernel) (by decide +kernel) (Nat.le_of_ble_eq_true rfl) (hr.le (by decide) (by decide)) c9_7 m9_7 f9_7 n9_7 h9_7 (fun al8 g8 hal8 => ?_)
  rw [f9_al g8 u9_7]
  refine a_putF (pc := 83) (K := 9) (o := 8) (ws := []) h hI (by decide) (by decide) k_297 rfl rfl rfl rfl (Nat.le_of_ble_eq_true rfl) (by decide +kernel) ?_
  show AtW X 86 400 5768 _ [] ((h0, .inr (9, f9 9 al8)) :: wld (al8, e9_8, (xB X).2.2) σI)
  refine a_al (pc := 86) (n := 0) h (by decide +kernel) rfl (List.mem_cons_self) ?_
  refine g_make (pc := 87) (K := 2) (j := 0) (D0 := e9_8) (D := nwD 2 0) (al := al8) (x := (h0, .inr (9, f9 9 al8))) h hR (by decide) k_170 k_171 k_6 dfl_2 v_DI_init (Or.inr ⟨_, k_172⟩) hal8 (fun l B ws h0 => cn_DI l B ws h0) (by decide +kernel) (by decide +kernel) (by decide +kernel) (Nat.le_of_ble_eq_true rfl) (hr.le (by decide) (by decide)) c9_8 m9_8 f9_8 n9_8 h9_8 (fun al9 g9 hal9 => ?_)
  rw [f9_al g9 u9_8]
  refine a_putF (pc := 94) (K := 9) (o := 9) (ws := []) h hI (by decide) (by decide) k_298 rfl rfl rfl rfl (Nat.le_of_ble_eq_true rfl) (by decide +kernel) ?_
  show AtW X 97 401 5769 _ [] ((h0, .inr (9, f9 10 al9)) :: wld (al9, e9_9, (xB X).2.2) σI)
  refine a_al (pc := 97) (n := 0) h (by decide +kernel) rfl (List.mem_cons_self) ?_
  refine g_make (pc := 98) (K := 5) (j := 0) (D0 := e9_9) (D := nwD 5 0) (al := al9) (x := (h0, .inr (9, f9 10 al9))) h hR (by decide) k_181 k_182 k_7 dfl_5 v_RE_init (Or.inr ⟨_, k_183⟩) hal9 (fun l B ws h0 => cn_RE l B ws h0) (by decide +kernel) (by decide +kernel) (by decide +kernel) (Nat.le_of_ble_eq_true rfl) (hr.le (by decide) (by decide)) c9_9 m9_9 f9_9 n9_9 h9_9 (fun al10 g10 hal10 => ?_)
  rw [f9_al g10 u9_9]
  refine a_put (pc := 105) (K := 9) (o := 10) (ws := []) h (by decide) (by decide) k_299 rfl rfl rfl (Nat.le_of_ble_eq_true rfl) (by decide +kernel) ?_
  show AtW X 108 410 5830 _ [] ((h0, .inr (9, f9 11 al10)) :: wld (al10, e9_10, (xB X).2.2) σI)
  refine a_al (pc := 108) (n := 0) h (by decide +kernel) rfl (List.mem_cons_self) ?_
  refine g_make (pc := 109) (K := 5) (j := 1) (D0 := e9_10) (D := nwD 5 1) (al := al10) (x := (h0, .inr (9, f9 11 al10))) h hR (by decide) k_181 k_182 k_7 dfl_5 v_RE_init (Or.inr ⟨_, k_183⟩) hal10 (fun l B ws h0 => cn_RE l B ws h0) (by decide +kernel) (by decide +kernel) (by decide +kernel) (Nat.le_of_ble_eq_true rfl) (hr.le (by decide) (by decide)) c9_10 m9_10 f9_10 n9_10 h9_10 (fun al11 g11 hal11 => ?_)
  rw [f9_al g11 u9_10]
  refine a_put (pc := 116) (K := 9) (o := 11) (ws := []) h (by decide) (by decide) k_300 rfl rfl rfl (Nat.le_of_ble_eq_true rfl) (by decide +kernel) ?_
  show AtW X 119 419 5891 _ [] ((h0, .inr (9, f9 12 al11)) :: wld (al11, e9_11, (xB X).2.2) σI)
  refine a_al (pc := 119) (n := 0) h (by decide +kernel) rfl (List.mem_cons_self) ?_
  refine g_make (pc := 120) (K := 3) (j := 0) (D0 := e9_11) (D := nwD 3 0) (al := al11) (x := (h0, .inr (9, f9 12 al11))) h hR (by decide) k_57 k_253 k_9 dfl_3 v_LA_init (Or.inr ⟨_, k_254⟩) hal11 (fun l B ws h0 => cn_LA l B ws h0) (by decide +kernel) (by decide +kernel) (by decide +kernel) (Nat.le_of_ble_eq_true rfl) (hr.le (by decide) (by decide)) c9_11 m9_11 f9_11 n9_11 h9_11 (fun al12 g12 hal12 => ?_)
  rw [f9_al g12 u9_11]
  refine a_put (pc := 127) (K := 9) (o := 12) (ws := []) h (by decide) (by decide) k_301 rfl rfl rfl (Nat.le_of_ble_eq_true rfl) (by decide +kernel) ?_
  show AtW X 130 423 6175 _ [] ((h0, .inr (9, f9 13 al12)) :: wld (al12, e9_12, (xB X).2.2) σI)
  refine a_al (pc := 130) (n := 0) h (by decide +kernel) rfl (List.mem_cons_self) ?_
  refine g_make (pc := 131) (K := 1) (j := 0) (D0 := e9_12) (D := nwD 1 0) (al := al12) (x := (h0, .inr (9, f9 13 al12))) h hR (by decide) k_59 k_272 k_10 dfl_1 v_CA_init (Or.inr ⟨_, k_273⟩) hal12 (fun l B ws h0 => cn_CA l B ws h0) (by decide +kernel) (by decide +kernel) (by decide +kernel) (Nat.le_of_ble_eq_true rfl) (hr.le (by decide) (by decide)) c9_12 m9_12 f9_12 n9_12 h9_12 (fun al13 g13 hal13 => ?_)
  rw [f9_al g13 u9_12]
  refine a_put (pc := 138) (K := 9) (o := 13) (ws := []) h (by decide) (by decide) k_302 rfl rfl rfl (Nat.le_of_ble_eq_true rfl) (by decide +kernel) ?_
  show AtW X 141 426 6210 _ [] ((h0, .inr (9, f9 14 al13)) :: wld (al13, e9_13, (xB X).2.2) σI)
  refine a_al (pc := 141) (n := 0) h (by decide +kernel) rfl (List.mem_cons_self) ?_
  refine a_psh (pc := 142) (n := 0) (len := 1) h (Or.inl ⟨(by decide +kernel), rfl⟩) ?_
  refine a_put (pc := 143) (K := 9) (o := 14) (ws := []) h (by decide) (by decide) k_303 rfl rfl rfl (Nat.le_of_ble_eq_true rfl) (by decide +kernel) ?_
  refine a_al (pc := 146) (n := 0) h (by decide +kernel) rfl (List.mem_cons_self) ?_
  refine a_psh (pc := 147) (n := 0) (len := 1) h (Or.inl ⟨(by decide +kernel), rfl⟩) ?_
  refine a_put (pc := 148) (K := 9) (o := 15) (ws := []) h (by decide) (by decide) k_304 rfl rfl rfl (Nat.le_of_ble_eq_true rfl) (by decide +kernel) ?_
  refine a_al (pc := 151) (n := 0) h (by decide +kernel) rfl (List.mem_cons_self) ?_
  refine a_psh (pc := 152) (n := (-1)) (len := 1) h (Or.inl ⟨(by decide +kernel), rfl⟩) ?_
  refine a_put (pc := 153) (K := 9) (o := 16) (ws := []) h (by decide) (by decide) k_305 rfl rfl rfl (Nat.le_of_ble_eq_true rfl) (by decide +kernel) ?_
  refine a_al (pc := 156) (n := 0) h (by decide +kernel) rfl (List.mem_cons_self) ?_
  refine a_psh (pc := 157) (n := 2) (len := 1) h (Or.inl ⟨(by decide +kernel), rfl⟩) ?_
  refine a_put (pc := 158) (K := 9) (o := 17) (ws := []) h (by decide) (by decide) k_306 rfl rfl rfl (Nat.le_of_ble_eq_true rfl) (by decide +kernel) ?_
  refine a_al (pc := 161) (n := 0) h (by decide +kernel) rfl (List.mem_cons_self) ?_
  refine a_psh (pc := 162) (n := 0) (len := 1) h (Or.inl ⟨(by decide +kernel), rfl⟩) ?_
  refine a_put (pc := 163) (K := 9) (o := 1) (ws := []) h (by decide) (by decide) k_307 rfl rfl rfl (Nat.le_of_ble_eq_true rfl) (by decide +kernel) ?_
  refine a_ret (pc := 166) h hrt hB (Nat.le_of_ble_eq_true rfl) (Nat.le_of_ble_eq_true rfl) ?_ (by decide +kernel)
  refine ⟨alU al13 [((9, 0), h0)], fun k hk => ?_, by simp [alU], ?_⟩
  · funext i
    rw [alU_no (by simp; omega), hal13 k hk, hX]
  have a9 : alU al13 [((9, 0), h0)] 9 0 = h0 := by simp [alU]
  have g15 : ∀ k i, (k, i) ∉ [(9, 0)] → alU al13 [((9, 0), h0)] k i = al13 k i := fun k i hn => alU_no (by simpa using hn)
  generalize alU al13 [((9, 0), h0)] = al at *
  have e1 : wld (al, e9_13, B.2.2) σI = wld (al13, e9_13, B.2.2) σI := wld_al (fun k i q => g15 k i (fun z => by
    cases List.mem_singleton.mp z
    rcases q with q | q
    · exact z9_9 q
    · omega)) (fun j hj o => g15 _ _ (by simp)) c9_13 m9_13
  rw [show nw9 = (9, 0) :: e9_13 from rfl, wld_cons, e1, hX2, a9, cel_o (show 9 < 11 by decide)]
  have ef : (List.range (jn 9)).map (fv al σI 9 0) = [.ref (al13 7 0), .int 0, .ref (al13 49 0), .ref (al13 50 0), .ref (al13 8 0), .ref (al13 8 1), .ref (al13 8 2), .ref (al13 0 0), .ref (al13 6 0), .ref (al13 2 0), .ref (al13 5 0), .ref (al13 5 1), .ref (al13 3 0), .ref (al13 1 0), .int 0, .int 0, .int (-1), .int 2] := by
    show [fv al σI 9 0 0, fv al σI 9 0 1, fv al σI 9 0 2, fv al σI 9 0 3, fv al σI 9 0 4, fv al σI 9 0 5, fv al σI 9 0 6, fv al σI 9 0 7, fv al σI 9 0 8, fv al σI 9 0 9, fv al σI 9 0 10, fv al σI 9 0 11, fv al σI 9 0 12, fv al σI 9 0 13, fv al σI 9 0 14, fv al σI 9 0 15, fv al σI 9 0 16, fv al σI 9 0 17] = _
    rw [show fv al σI 9 0 0 = .ref (al13 7 0) from congrArg Value.ref (g15 7 0 (by decide)), show fv al σI 9 0 2 = .ref (al13 49 0) from congrArg Value.ref (g15 49 0 (by decide)), show fv al σI 9 0 3 = .ref (al13 50 0) from congrArg Value.ref (g15 50 0 (by decide)), show fv al σI 9 0 4 = .ref (al13 8 0) from congrArg Value.ref (g15 8 0 (by decide)), show fv al σI 9 0 5 = .ref (al13 8 1) from congrArg Value.ref (g15 8 1 (by decide)), show fv al σI 9 0 6 = .ref (al13 8 2) from congrArg Value.ref (g15 8 2 (by decide)), show fv al σI 9 0 7 = .ref (al13 0 0) from congrArg Value.ref (g15 0 0 (by decide)), show fv al σI 9 0 8 = .ref (al13 6 0) from congrArg Value.ref (g15 6 0 (by decide)), show fv al σI 9 0 9 = .ref (al13 2 0) from congrArg Value.ref (g15 2 0 (by decide)), show fv al σI 9 0 10 = .ref (al13 5 0) from congrArg Value.ref (g15 5 0 (by decide)), show fv al σI 9 0 11 = .ref (al13 5 1) from congrArg Value.ref (g15 5 1 (by decide)), show fv al σI 9 0 12 = .ref (al13 3 0) from congrArg Value.ref (g15 3 0 (by decide)), show fv al σI 9 0 13 = .ref (al13 1 0) from congrArg Value.ref (g15 1 0 (by decide))]
    rfl
  rw [ef]
  rfl
