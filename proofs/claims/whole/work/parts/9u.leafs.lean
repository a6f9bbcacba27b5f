/-! ===== 9u leaf constructors (printed by gen/leaf.py) ===== -/
def bl (k o : Nat) : Int := match k with | 5 => (if o = 11 then 1 else 0) | 6 => (if o = 8 then 1 else 0) | 7 => (if o = 3 then -1 else 0) | 9 => (if o = 16 then -1 else if o = 17 then 2 else 0) | 10 => (if o = 34 then -1 else if o = 35 then 2 else 0) | _ => 0
def br (k o : Nat) : Option Nat := match k with | 9 => (if o = 10 ∨ o = 12 ∨ o = 13 then some 0 else if o = 11 then some 1 else none) | 10 => (if o = 5 then some 0 else none) | _ => none
def Blk (D : List (Nat × Nat)) (σ : jM) : Prop := ∀ q ∈ D, ∀ o, σ.1 q.1 q.2 o = bl q.1 o ∧ σ.2.1 q.1 q.2 o = 0 ∧ σ.2.2 q.1 q.2 o = br q.1 o
def nwD (K j : Nat) : List (Nat × Nat) := match K with | 1 => [(1, j), (21, j), (22, j)] | 2 => [(2, j)] | 3 => [(3, j), (23, j), (24, j), (25, j)] | 5 => [(5, j), (26, j), (27, j), (28, j), (29, j), (30, j), (31, j), (32, j), (33, j)] | 6 => [(6, j), (34, j), (35, j), (36, j), (37, j), (38, j), (39, j)] | 7 => [(7, j), (40, j)] | 8 => [(8, j), (41, j), (42, j), (43, j), (44, j), (45, j), (46, j), (47, j), (48, j)] | _ => []
def nwM : List (Nat × Nat) := [(10, 0), (60, 0), (60, 1), (61, 0), (62, 0), (63, 0), (64, 0), (65, 0), (64, 1), (66, 0), (64, 2), (67, 0), (68, 0), (69, 0), (69, 1), (70, 0), (71, 0), (72, 0), (73, 0), (74, 0), (75, 0), (76, 0), (77, 0)]
def alU (al : Nat → Nat → Nat) : List ((Nat × Nat) × Nat) → Nat → Nat → Nat
  | [], k, i => al k i
  | (q, a) :: l, k, i => if q.1 = k ∧ q.2 = i then a else alU al l k i
theorem alU_no {al : Nat → Nat → Nat} : ∀ {l : List ((Nat × Nat) × Nat)} {k i : Nat}, (k, i) ∉ l.map (fun z => z.1) → alU al l k i = al k i
  | [], k, i, _ => rfl
  | (q, a) :: l, k, i, h => by
    rw [List.map_cons, List.mem_cons, not_or] at h
    unfold alU
    rw [if_neg (fun e => h.1 (by rw [← e.1, ← e.2]))]
    exact alU_no h.2
def Nw (B : jB) (ws : va_W) (D : List (Nat × Nat)) (K j h0 : Nat) (w : va_W) : Prop := ∃ al : Nat → Nat → Nat, (∀ k i, (k, i) ∉ D → al k i = B.1 k i) ∧ al K j = h0 ∧ ∀ σ, Blk D σ → w = ws ++ wld (al, D, B.2.2) σ
theorem Rmc.le {X : jX} {a b a2 b2 : Nat} (h : Rmc X a b) (h1 : a2 ≤ a) (h2 : b2 ≤ b) : Rmc X a2 b2 := by
  obtain ⟨p, l, e, R, s, m, args, below, meth, c, Q, c1, c2, B, nL⟩ := X
  exact ⟨Nat.le_trans h1 h.1, Nat.le_trans h2 h.2⟩
theorem row0 {B : jB} {σ : jM} {k j : Nat} (hk : 11 ≤ k) (he : decide (eTc k < 2) = true) (hb : ∀ o, σ.1 k j o = 0) : cel B σ k j = .inl (B.2.2.2.1 (eCl k), jln k j, .inl (fun _ => 0)) := by
  rw [cel_a (by omega)]
  have h2 := of_decide_eq_true he
  have e : ev_ B.1 σ k j = .inl (fun _ => 0) := by
    unfold ev_
    split
    · omega
    · omega
    · omega
    · rw [show (fun o => Int32.ofInt (σ.1 k j o)) = (fun _ => (0 : Int32)) from funext (fun o => by rw [hb]; rfl)]
  rw [e]
theorem rowL {B : jB} {σ : jM} {k j : Nat} (hk : 11 ≤ k) (he : decide (eTc k = 2) = true) (hb : ∀ o, σ.2.1 k j o = 0) : cel B σ k j = .inl (B.2.2.2.1 (eCl k), jln k j, .inr (.inl (fun _ => 0))) := by
  rw [cel_a (by omega)]
  have h2 := of_decide_eq_true he
  have e : ev_ B.1 σ k j = .inr (.inl (fun _ => 0)) := by
    unfold ev_
    rw [h2]
    rw [show (fun o => Int64.ofInt (σ.2.1 k j o)) = (fun _ => (0 : Int64)) from funext (fun o => by rw [hb]; rfl)]
    all_goals rfl
  rw [e]
theorem b_newI {X : jX} {own : String} {cc : ByteArray} {N pc cells slots nr : Nat} {L : List (Nat × Value)} {st : List Value} {ws lo : va_W} {x : Nat × va_E} (h : Cx X own cc N) (hw : Cond.arrayClass .int ∈ lw_tbl) (hd : decode cc pc = .ok (.newarray .int, 2)) (hn : nr ≤ 20000) (hr : Rmc X (cells + 1) (slots + nr)) (hk : ∀ q, AtW X (pc + 2) (cells + 1) (slots + nr) L (.ref q :: st) (ws ++ x :: (lo ++ [(q, .inl ((xB X).2.2.2.1 0, nr, .inl (fun _ => 0)))]))) : AtW X pc cells slots L (.int (Int32.ofInt nr) :: st) (ws ++ x :: lo) :=
  a_newI h hw hd hn hr (fun q => by rw [List.append_assoc, List.cons_append]; exact hk q)
theorem b_newB {X : jX} {own : String} {cc : ByteArray} {N pc cells slots nr : Nat} {L : List (Nat × Value)} {st : List Value} {ws lo : va_W} {x : Nat × va_E} (h : Cx X own cc N) (hw : Cond.arrayClass .byte ∈ lw_tbl) (hd : decode cc pc = .ok (.newarray .byte, 2)) (hn : nr ≤ 20000) (hr : Rmc X (cells + 1) (slots + nr)) (hk : ∀ q, AtW X (pc + 2) (cells + 1) (slots + nr) L (.ref q :: st) (ws ++ x :: (lo ++ [(q, .inl ((xB X).2.2.2.1 1, nr, .inl (fun _ => 0)))]))) : AtW X pc cells slots L (.int (Int32.ofInt nr) :: st) (ws ++ x :: lo) :=
  a_newB h hw hd hn hr (fun q => by rw [List.append_assoc, List.cons_append]; exact hk q)
theorem b_newL {X : jX} {own : String} {cc : ByteArray} {N pc cells slots nr : Nat} {L : List (Nat × Value)} {st : List Value} {ws lo : va_W} {x : Nat × va_E} (h : Cx X own cc N) (hw : Cond.arrayClass .long ∈ lw_tbl) (hd : decode cc pc = .ok (.newarray .long, 2)) (hn : nr ≤ 20000) (hr : Rmc X (cells + 1) (slots + nr)) (hk : ∀ q, AtW X (pc + 2) (cells + 1) (slots + nr) L (.ref q :: st) (ws ++ x :: (lo ++ [(q, .inl ((xB X).2.2.2.1 2, nr, .inr (.inl (fun _ => 0))))]))) : AtW X pc cells slots L (.int (Int32.ofInt nr) :: st) (ws ++ x :: lo) :=
  a_newL h hw hd hn hr (fun q => by rw [List.append_assoc, List.cons_append]; exact hk q)
theorem b_newQ {X : jX} {own : String} {cc : ByteArray} {N pc cells slots nr ix c0 : Nat} {C : String} {L : List (Nat × Value)} {st : List Value} {ws lo : va_W} {x : Nat × va_E} (h : Cx X own cc N) (h6 : c0 < 6) (hC : eTy c0 = .object C) (hcl : Cond.classLink own ix C ∈ lw_tbl) (hw : Cond.arrayOver (.object C) ∈ lw_tbl) (hd : decode cc pc = .ok (.anewarray ix, 3)) (hn : nr ≤ 20000) (hr : Rmc X (cells + 1) (slots + nr)) (hk : ∀ q, AtW X (pc + 3) (cells + 1) (slots + nr) L (.ref q :: st) (ws ++ x :: (lo ++ [(q, .inl ((xB X).2.2.2.1 c0, nr, .inr (.inr (.inr (.inr (fun _ => none))))))]))) : AtW X pc cells slots L (.int (Int32.ofInt nr) :: st) (ws ++ x :: lo) :=
  a_newQ h h6 hC hcl hw hd hn hr (fun q => by rw [List.append_assoc, List.cons_append]; exact hk q)
def M_DI_init : jMT := (⟨"LosersBooks$Dice", "<init>", "()V"⟩, prog_4_method_1_code, 1, none)
theorem v_DI_init : VI M_DI_init 0 := ⟨k_174, k_173, k_6, rfl, ⟨by decide +kernel, by decide +kernel⟩, by decide +kernel, by decide, rfl⟩
theorem cn_DI {d j : Nat} (l : Launch) (B : jB) (ws : va_W) (h0 : Nat) : Met l M_DI_init.1 [.code M_DI_init.1 M_DI_init.2.1 M_DI_init.2.2.1 M_DI_init.2.2.2] (rmc (d + 1) 0 0) (PcN B (ws ++ [(h0, .inr (2, [.long 0]))]) [.ref h0]) (QcN B (Nw B ws (nwD 2 j) 2 j h0)) 0 0 (sysA B) := by
  refine Cn.intro (own := "LosersBooks$Dice") (by decide +kernel) rfl rfl (Nat.le_of_ble_eq_true rfl) (fun X h hI hR hr hrt hB => ?_)
  have hB4 : ∀ c, (xB X).2.2.2.1 c = B.2.2.2.1 c := fun c => by rw [hB]; rfl
  refine a_al (pc := 0) (n := 0) h (by decide +kernel) rfl (List.mem_cons_self) ?_
  refine a_obj (pc := 1) h hR k_175 k_31 k_32 (by decide +kernel) ?_
  refine a_al (pc := 4) (n := 0) h (by decide +kernel) rfl (List.mem_cons_self) ?_
  refine a_lc (pc := 5) (n := 0) (v := 0) h (by decide +kernel) rfl ?_
  refine a_put (pc := 6) (K := 2) (o := 0) h (by decide) (by decide) k_176 rfl rfl rfl (Nat.le_of_ble_eq_true rfl) (by decide +kernel) ?_
  refine a_ret (pc := 9) h hrt hB (Nat.le_of_ble_eq_true rfl) (Nat.le_of_ble_eq_true rfl) ?_ (by decide +kernel)
  refine ⟨alU B.1 [((2, j), h0)], fun k i hn => alU_no hn, by simp [alU], fun σ hb => ?_⟩
  have a0 : alU B.1 [((2, j), h0)] 2 j = h0 := by simp [alU]
  generalize alU B.1 [((2, j), h0)] = al at *
  show ws ++ (h0, .inr (2, [.long 0])) :: [] = ws ++ [(al 2 j, cel (al, nwD 2 j, B.2.2) σ 2 j)]
  rw [cel_o (show 2 < 11 by decide)]
  have ef : (List.range (jn 2)).map (fv al σ 2 j) = [.long 0] := by
    show [fv al σ 2 j 0] = _
    rw [show fv al σ 2 j 0 = .long 0 from congrArg (fun z => Value.long (Int64.ofInt z)) ((hb (2, j) (by simp [nwD]) 0).2.1)]
  rw [ef, a0]
  all_goals rfl
def M_TA_init : jMT := (⟨"LosersBooks$Tape", "<init>", "()V"⟩, prog_9_method_1_code, 1, none)
theorem v_TA_init : VI M_TA_init 0 := ⟨k_37, k_36, k_2, rfl, ⟨by decide +kernel, by decide +kernel⟩, by decide +kernel, by decide, rfl⟩
theorem cn_TA {d j : Nat} (l : Launch) (B : jB) (ws : va_W) (h0 : Nat) : Met l M_TA_init.1 [.code M_TA_init.1 M_TA_init.2.1 M_TA_init.2.2.1 M_TA_init.2.2.2] (rmc (d + 1) 1 240) (PcN B (ws ++ [(h0, .inr (7, [.null, .int 0, .int 0, .int 0]))]) [.ref h0]) (QcN B (Nw B ws (nwD 7 j) 7 j h0)) 1 240 (sysA B) := by
  refine Cn.intro (own := "LosersBooks$Tape") (by decide +kernel) rfl rfl (Nat.le_of_ble_eq_true rfl) (fun X h hI hR hr hrt hB => ?_)
  have hB4 : ∀ c, (xB X).2.2.2.1 c = B.2.2.2.1 c := fun c => by rw [hB]; rfl
  refine a_al (pc := 0) (n := 0) h (by decide +kernel) rfl (List.mem_cons_self) ?_
  refine a_obj (pc := 1) h hR k_38 k_31 k_32 (by decide +kernel) ?_
  refine a_al (pc := 4) (n := 0) h (by decide +kernel) rfl (List.mem_cons_self) ?_
  refine a_psh (pc := 5) (n := ((240 : Nat) : Int)) (len := 3) h (Or.inr (Or.inr ⟨(by decide +kernel), by decide +kernel, rfl⟩)) ?_
  refine b_newI (pc := 8) (nr := 240) h k_56 (by decide +kernel) (by decide) (hr.le (by decide) (by decide)) (fun q1 => ?_)
  refine a_putF (pc := 10) (K := 7) (o := 0) h hI (by decide) (by decide) k_39 rfl rfl rfl rfl (Nat.le_of_ble_eq_true rfl) (by decide +kernel) ?_
  refine a_al (pc := 13) (n := 0) h (by decide +kernel) rfl (List.mem_cons_self) ?_
  refine a_psh (pc := 14) (n := 0) (len := 1) h (Or.inl ⟨(by decide +kernel), rfl⟩) ?_
  refine a_put (pc := 15) (K := 7) (o := 1) h (by decide) (by decide) k_40 rfl rfl rfl (Nat.le_of_ble_eq_true rfl) (by decide +kernel) ?_
  refine a_al (pc := 18) (n := 0) h (by decide +kernel) rfl (List.mem_cons_self) ?_
  refine a_psh (pc := 19) (n := 0) (len := 1) h (Or.inl ⟨(by decide +kernel), rfl⟩) ?_
  refine a_put (pc := 20) (K := 7) (o := 2) h (by decide) (by decide) k_42 rfl rfl rfl (Nat.le_of_ble_eq_true rfl) (by decide +kernel) ?_
  refine a_al (pc := 23) (n := 0) h (by decide +kernel) rfl (List.mem_cons_self) ?_
  refine a_psh (pc := 24) (n := (-1)) (len := 1) h (Or.inl ⟨(by decide +kernel), rfl⟩) ?_
  refine a_put (pc := 25) (K := 7) (o := 3) h (by decide) (by decide) k_43 rfl rfl rfl (Nat.le_of_ble_eq_true rfl) (by decide +kernel) ?_
  refine a_ret (pc := 28) h hrt hB (Nat.le_of_ble_eq_true rfl) (Nat.le_of_ble_eq_true rfl) ?_ (by decide +kernel)
  refine ⟨alU B.1 [((7, j), h0), ((40, j), q1)], fun k i hn => alU_no hn, by simp [alU], fun σ hb => ?_⟩
  have a0 : alU B.1 [((7, j), h0), ((40, j), q1)] 7 j = h0 := by simp [alU]
  have a1 : alU B.1 [((7, j), h0), ((40, j), q1)] 40 j = q1 := by simp [alU]
  generalize alU B.1 [((7, j), h0), ((40, j), q1)] = al at *
  simp only [hB4]
  show ws ++ (h0, .inr (7, [.ref q1, .int (Int32.ofInt 0), .int (Int32.ofInt 0), .int (Int32.ofInt (-1))])) :: [(q1, .inl (B.2.2.2.1 0, 240, .inl (fun _ => 0)))] = ws ++ [(al 7 j, cel (al, nwD 7 j, B.2.2) σ 7 j), (al 40 j, cel (al, nwD 7 j, B.2.2) σ 40 j)]
  rw [cel_o (show 7 < 11 by decide), row0 (B := (al, nwD 7 j, B.2.2)) (k := 40) (j := j) (by decide) rfl (fun o => (hb (40, j) (by simp [nwD]) o).1)]
  have ef : (List.range (jn 7)).map (fv al σ 7 j) = [.ref q1, .int (Int32.ofInt 0), .int (Int32.ofInt 0), .int (Int32.ofInt (-1))] := by
    show [fv al σ 7 j 0, fv al σ 7 j 1, fv al σ 7 j 2, fv al σ 7 j 3] = _
    rw [show fv al σ 7 j 0 = .ref q1 from congrArg Value.ref a1, show fv al σ 7 j 1 = .int (Int32.ofInt 0) from congrArg (fun z => Value.int (Int32.ofInt z)) ((hb (7, j) (by simp [nwD]) 1).1), show fv al σ 7 j 2 = .int (Int32.ofInt 0) from congrArg (fun z => Value.int (Int32.ofInt z)) ((hb (7, j) (by simp [nwD]) 2).1), show fv al σ 7 j 3 = .int (Int32.ofInt (-1)) from congrArg (fun z => Value.int (Int32.ofInt z)) ((hb (7, j) (by simp [nwD]) 3).1)]
  rw [ef, a0, a1]
  all_goals rfl
def M_CA_init : jMT := (⟨"LosersBooks$Campaign", "<init>", "()V"⟩, prog_3_method_1_code, 1, none)
theorem v_CA_init : VI M_CA_init 0 := ⟨k_275, k_274, k_10, rfl, ⟨by decide +kernel, by decide +kernel⟩, by decide +kernel, by decide, rfl⟩
theorem cn_CA {d j : Nat} (l : Launch) (B : jB) (ws : va_W) (h0 : Nat) : Met l M_CA_init.1 [.code M_CA_init.1 M_CA_init.2.1 M_CA_init.2.2.1 M_CA_init.2.2.2] (rmc (d + 1) 2 32) (PcN B (ws ++ [(h0, .inr (1, [.null, .null, .int 0]))]) [.ref h0]) (QcN B (Nw B ws (nwD 1 j) 1 j h0)) 2 32 (sysA B) := by
  refine Cn.intro (own := "LosersBooks$Campaign") (by decide +kernel) rfl rfl (Nat.le_of_ble_eq_true rfl) (fun X h hI hR hr hrt hB => ?_)
  have hB4 : ∀ c, (xB X).2.2.2.1 c = B.2.2.2.1 c := fun c => by rw [hB]; rfl
  refine a_al (pc := 0) (n := 0) h (by decide +kernel) rfl (List.mem_cons_self) ?_
  refine a_obj (pc := 1) h hR k_276 k_31 k_32 (by decide +kernel) ?_
  refine a_al (pc := 4) (n := 0) h (by decide +kernel) rfl (List.mem_cons_self) ?_
  refine a_psh (pc := 5) (n := ((16 : Nat) : Int)) (len := 2) h (Or.inr (Or.inl ⟨(by decide +kernel), by decide +kernel, rfl⟩)) ?_
  refine b_newI (pc := 7) (nr := 16) h k_56 (by decide +kernel) (by decide) (hr.le (by decide) (by decide)) (fun q1 => ?_)
  refine a_putF (pc := 9) (K := 1) (o := 0) h hI (by decide) (by decide) k_277 rfl rfl rfl rfl (Nat.le_of_ble_eq_true rfl) (by decide +kernel) ?_
  refine a_al (pc := 12) (n := 0) h (by decide +kernel) rfl (List.mem_cons_self) ?_
  refine a_psh (pc := 13) (n := ((16 : Nat) : Int)) (len := 2) h (Or.inr (Or.inl ⟨(by decide +kernel), by decide +kernel, rfl⟩)) ?_
  refine b_newI (pc := 15) (nr := 16) h k_56 (by decide +kernel) (by decide) (hr.le (by decide) (by decide)) (fun q2 => ?_)
  refine a_putF (pc := 17) (K := 1) (o := 1) h hI (by decide) (by decide) k_279 rfl rfl rfl rfl (Nat.le_of_ble_eq_true rfl) (by decide +kernel) ?_
  refine a_al (pc := 20) (n := 0) h (by decide +kernel) rfl (List.mem_cons_self) ?_
  refine a_psh (pc := 21) (n := 0) (len := 1) h (Or.inl ⟨(by decide +kernel), rfl⟩) ?_
  refine a_put (pc := 22) (K := 1) (o := 2) h (by decide) (by decide) k_281 rfl rfl rfl (Nat.le_of_ble_eq_true rfl) (by decide +kernel) ?_
  refine a_ret (pc := 25) h hrt hB (Nat.le_of_ble_eq_true rfl) (Nat.le_of_ble_eq_true rfl) ?_ (by decide +kernel)
  refine ⟨alU B.1 [((1, j), h0), ((21, j), q1), ((22, j), q2)], fun k i hn => alU_no hn, by simp [alU], fun σ hb => ?_⟩
  have a0 : alU B.1 [((1, j), h0), ((21, j), q1), ((22, j), q2)] 1 j = h0 := by simp [alU]
  have a1 : alU B.1 [((1, j), h0), ((21, j), q1), ((22, j), q2)] 21 j = q1 := by simp [alU]
  have a2 : alU B.1 [((1, j), h0), ((21, j), q1), ((22, j), q2)] 22 j = q2 := by simp [alU]
  generalize alU B.1 [((1, j), h0), ((21, j), q1), ((22, j), q2)] = al at *
  simp only [hB4]
  show ws ++ (h0, .inr (1, [.ref q1, .ref q2, .int (Int32.ofInt 0)])) :: [(q1, .inl (B.2.2.2.1 0, 16, .inl (fun _ => 0))), (q2, .inl (B.2.2.2.1 0, 16, .inl (fun _ => 0)))] = ws ++ [(al 1 j, cel (al, nwD 1 j, B.2.2) σ 1 j), (al 21 j, cel (al, nwD 1 j, B.2.2) σ 21 j), (al 22 j, cel (al, nwD 1 j, B.2.2) σ 22 j)]
  rw [cel_o (show 1 < 11 by decide), row0 (B := (al, nwD 1 j, B.2.2)) (k := 21) (j := j) (by decide) rfl (fun o => (hb (21, j) (by simp [nwD]) o).1), row0 (B := (al, nwD 1 j, B.2.2)) (k := 22) (j := j) (by decide) rfl (fun o => (hb (22, j) (by simp [nwD]) o).1)]
  have ef : (List.range (jn 1)).map (fv al σ 1 j) = [.ref q1, .ref q2, .int (Int32.ofInt 0)] := by
    show [fv al σ 1 j 0, fv al σ 1 j 1, fv al σ 1 j 2] = _
    rw [show fv al σ 1 j 0 = .ref q1 from congrArg Value.ref a1, show fv al σ 1 j 1 = .ref q2 from congrArg Value.ref a2, show fv al σ 1 j 2 = .int (Int32.ofInt 0) from congrArg (fun z => Value.int (Int32.ofInt z)) ((hb (1, j) (by simp [nwD]) 2).1)]
  rw [ef, a0, a1, a2]
  all_goals rfl
def M_LA_init : jMT := (⟨"LosersBooks$Law", "<init>", "()V"⟩, prog_5_method_1_code, 1, none)
theorem v_LA_init : VI M_LA_init 0 := ⟨k_256, k_255, k_9, rfl, ⟨by decide +kernel, by decide +kernel⟩, by decide +kernel, by decide, rfl⟩
theorem cn_LA {d j : Nat} (l : Launch) (B : jB) (ws : va_W) (h0 : Nat) : Met l M_LA_init.1 [.code M_LA_init.1 M_LA_init.2.1 M_LA_init.2.2.1 M_LA_init.2.2.2] (rmc (d + 1) 3 280) (PcN B (ws ++ [(h0, .inr (3, [.null, .null, .null, .int 0]))]) [.ref h0]) (QcN B (Nw B ws (nwD 3 j) 3 j h0)) 3 280 (sysA B) := by
  refine Cn.intro (own := "LosersBooks$Law") (by decide +kernel) rfl rfl (Nat.le_of_ble_eq_true rfl) (fun X h hI hR hr hrt hB => ?_)
  have hB4 : ∀ c, (xB X).2.2.2.1 c = B.2.2.2.1 c := fun c => by rw [hB]; rfl
  refine a_al (pc := 0) (n := 0) h (by decide +kernel) rfl (List.mem_cons_self) ?_
  refine a_obj (pc := 1) h hR k_257 k_31 k_32 (by decide +kernel) ?_
  refine a_al (pc := 4) (n := 0) h (by decide +kernel) rfl (List.mem_cons_self) ?_
  refine a_psh (pc := 5) (n := ((240 : Nat) : Int)) (len := 3) h (Or.inr (Or.inr ⟨(by decide +kernel), by decide +kernel, rfl⟩)) ?_
  refine b_newI (pc := 8) (nr := 240) h k_56 (by decide +kernel) (by decide) (hr.le (by decide) (by decide)) (fun q1 => ?_)
  refine a_putF (pc := 10) (K := 3) (o := 0) h hI (by decide) (by decide) k_258 rfl rfl rfl rfl (Nat.le_of_ble_eq_true rfl) (by decide +kernel) ?_
  refine a_al (pc := 13) (n := 0) h (by decide +kernel) rfl (List.mem_cons_self) ?_
  refine a_psh (pc := 14) (n := ((32 : Nat) : Int)) (len := 2) h (Or.inr (Or.inl ⟨(by decide +kernel), by decide +kernel, rfl⟩)) ?_
  refine b_newI (pc := 16) (nr := 32) h k_56 (by decide +kernel) (by decide) (hr.le (by decide) (by decide)) (fun q2 => ?_)
  refine a_putF (pc := 18) (K := 3) (o := 1) h hI (by decide) (by decide) k_259 rfl rfl rfl rfl (Nat.le_of_ble_eq_true rfl) (by decide +kernel) ?_
  refine a_al (pc := 21) (n := 0) h (by decide +kernel) rfl (List.mem_cons_self) ?_
  refine a_psh (pc := 22) (n := ((8 : Nat) : Int)) (len := 2) h (Or.inr (Or.inl ⟨(by decide +kernel), by decide +kernel, rfl⟩)) ?_
  refine b_newI (pc := 24) (nr := 8) h k_56 (by decide +kernel) (by decide) (hr.le (by decide) (by decide)) (fun q3 => ?_)
  refine a_putF (pc := 26) (K := 3) (o := 2) h hI (by decide) (by decide) k_260 rfl rfl rfl rfl (Nat.le_of_ble_eq_true rfl) (by decide +kernel) ?_
  refine a_al (pc := 29) (n := 0) h (by decide +kernel) rfl (List.mem_cons_self) ?_
  refine a_psh (pc := 30) (n := 0) (len := 1) h (Or.inl ⟨(by decide +kernel), rfl⟩) ?_
  refine a_put (pc := 31) (K := 3) (o := 3) h (by decide) (by decide) k_261 rfl rfl rfl (Nat.le_of_ble_eq_true rfl) (by decide +kernel) ?_
  refine a_ret (pc := 34) h hrt hB (Nat.le_of_ble_eq_true rfl) (Nat.le_of_ble_eq_true rfl) ?_ (by decide +kernel)
  refine ⟨alU B.1 [((3, j), h0), ((23, j), q1), ((24, j), q2), ((25, j), q3)], fun k i hn => alU_no hn, by simp [alU], fun σ hb => ?_⟩
  have a0 : alU B.1 [((3, j), h0), ((23, j), q1), ((24, j), q2), ((25, j), q3)] 3 j = h0 := by simp [alU]
  have a1 : alU B.1 [((3, j), h0), ((23, j), q1), ((24, j), q2), ((25, j), q3)] 23 j = q1 := by simp [alU]
  have a2 : alU B.1 [((3, j), h0), ((23, j), q1), ((24, j), q2), ((25, j), q3)] 24 j = q2 := by simp [alU]
  have a3 : alU B.1 [((3, j), h0), ((23, j), q1), ((24, j), q2), ((25, j), q3)] 25 j = q3 := by simp [alU]
  generalize alU B.1 [((3, j), h0), ((23, j), q1), ((24, j), q2), ((25, j), q3)] = al at *
  simp only [hB4]
  show ws ++ (h0, .inr (3, [.ref q1, .ref q2, .ref q3, .int (Int32.ofInt 0)])) :: [(q1, .inl (B.2.2.2.1 0, 240, .inl (fun _ => 0))), (q2, .inl (B.2.2.2.1 0, 32, .inl (fun _ => 0))), (q3, .inl (B.2.2.2.1 0, 8, .inl (fun _ => 0)))] = ws ++ [(al 3 j, cel (al, nwD 3 j, B.2.2) σ 3 j), (al 23 j, cel (al, nwD 3 j, B.2.2) σ 23 j), (al 24 j, cel (al, nwD 3 j, B.2.2) σ 24 j), (al 25 j, cel (al, nwD 3 j, B.2.2) σ 25 j)]
  rw [cel_o (show 3 < 11 by decide), row0 (B := (al, nwD 3 j, B.2.2)) (k := 23) (j := j) (by decide) rfl (fun o => (hb (23, j) (by simp [nwD]) o).1), row0 (B := (al, nwD 3 j, B.2.2)) (k := 24) (j := j) (by decide) rfl (fun o => (hb (24, j) (by simp [nwD]) o).1), row0 (B := (al, nwD 3 j, B.2.2)) (k := 25) (j := j) (by decide) rfl (fun o => (hb (25, j) (by simp [nwD]) o).1)]
  have ef : (List.range (jn 3)).map (fv al σ 3 j) = [.ref q1, .ref q2, .ref q3, .int (Int32.ofInt 0)] := by
    show [fv al σ 3 j 0, fv al σ 3 j 1, fv al σ 3 j 2, fv al σ 3 j 3] = _
    rw [show fv al σ 3 j 0 = .ref q1 from congrArg Value.ref a1, show fv al σ 3 j 1 = .ref q2 from congrArg Value.ref a2, show fv al σ 3 j 2 = .ref q3 from congrArg Value.ref a3, show fv al σ 3 j 3 = .int (Int32.ofInt 0) from congrArg (fun z => Value.int (Int32.ofInt z)) ((hb (3, j) (by simp [nwD]) 3).1)]
  rw [ef, a0, a1, a2, a3]
  all_goals rfl
def M_WO_init : jMT := (⟨"LosersBooks$World", "<init>", "()V"⟩, prog_10_method_1_code, 1, none)
theorem v_WO_init : VI M_WO_init 0 := ⟨k_65, k_64, k_3, rfl, ⟨by decide +kernel, by decide +kernel⟩, by decide +kernel, by decide, rfl⟩
theorem cn_WO {d j : Nat} (l : Launch) (B : jB) (ws : va_W) (h0 : Nat) : Met l M_WO_init.1 [.code M_WO_init.1 M_WO_init.2.1 M_WO_init.2.2.1 M_WO_init.2.2.2] (rmc (d + 1) 8 114) (PcN B (ws ++ [(h0, .inr (8, [.null, .null, .null, .null, .null, .null, .null, .null, .int 0, .int 0, .int 0, .int 0]))]) [.ref h0]) (QcN B (Nw B ws (nwD 8 j) 8 j h0)) 8 114 (sysA B) := by
  refine Cn.intro (own := "LosersBooks$World") (by decide +kernel) rfl rfl (Nat.le_of_ble_eq_true rfl) (fun X h hI hR hr hrt hB => ?_)
  have hB4 : ∀ c, (xB X).2.2.2.1 c = B.2.2.2.1 c := fun c => by rw [hB]; rfl
  refine a_al (pc := 0) (n := 0) h (by decide +kernel) rfl (List.mem_cons_self) ?_
  refine a_obj (pc := 1) h hR k_66 k_31 k_32 (by decide +kernel) ?_
  refine a_al (pc := 4) (n := 0) h (by decide +kernel) rfl (List.mem_cons_self) ?_
  refine a_psh (pc := 5) (n := ((4 : Nat) : Int)) (len := 1) h (Or.inl ⟨(by decide +kernel), rfl⟩) ?_
  refine b_newI (pc := 6) (nr := 4) h k_56 (by decide +kernel) (by decide) (hr.le (by decide) (by decide)) (fun q1 => ?_)
  refine a_putF (pc := 8) (K := 8) (o := 0) h hI (by decide) (by decide) k_67 rfl rfl rfl rfl (Nat.le_of_ble_eq_true rfl) (by decide +kernel) ?_
  refine a_al (pc := 11) (n := 0) h (by decide +kernel) rfl (List.mem_cons_self) ?_
  refine a_psh (pc := 12) (n := ((4 : Nat) : Int)) (len := 1) h (Or.inl ⟨(by decide +kernel), rfl⟩) ?_
  refine b_newI (pc := 13) (nr := 4) h k_56 (by decide +kernel) (by decide) (hr.le (by decide) (by decide)) (fun q2 => ?_)
  refine a_putF (pc := 15) (K := 8) (o := 1) h hI (by decide) (by decide) k_69 rfl rfl rfl rfl (Nat.le_of_ble_eq_true rfl) (by decide +kernel) ?_
  refine a_al (pc := 18) (n := 0) h (by decide +kernel) rfl (List.mem_cons_self) ?_
  refine a_psh (pc := 19) (n := ((4 : Nat) : Int)) (len := 1) h (Or.inl ⟨(by decide +kernel), rfl⟩) ?_
  refine b_newI (pc := 20) (nr := 4) h k_56 (by decide +kernel) (by decide) (hr.le (by decide) (by decide)) (fun q3 => ?_)
  refine a_putF (pc := 22) (K := 8) (o := 2) h hI (by decide) (by decide) k_71 rfl rfl rfl rfl (Nat.le_of_ble_eq_true rfl) (by decide +kernel) ?_
  refine a_al (pc := 25) (n := 0) h (by decide +kernel) rfl (List.mem_cons_self) ?_
  refine a_psh (pc := 26) (n := ((4 : Nat) : Int)) (len := 1) h (Or.inl ⟨(by decide +kernel), rfl⟩) ?_
  refine b_newI (pc := 27) (nr := 4) h k_56 (by decide +kernel) (by decide) (hr.le (by decide) (by decide)) (fun q4 => ?_)
  refine a_putF (pc := 29) (K := 8) (o := 3) h hI (by decide) (by decide) k_73 rfl rfl rfl rfl (Nat.le_of_ble_eq_true rfl) (by decide +kernel) ?_
  refine a_al (pc := 32) (n := 0) h (by decide +kernel) rfl (List.mem_cons_self) ?_
  refine a_psh (pc := 33) (n := ((4 : Nat) : Int)) (len := 1) h (Or.inl ⟨(by decide +kernel), rfl⟩) ?_
  refine b_newI (pc := 34) (nr := 4) h k_56 (by decide +kernel) (by decide) (hr.le (by decide) (by decide)) (fun q5 => ?_)
  refine a_putF (pc := 36) (K := 8) (o := 4) h hI (by decide) (by decide) k_75 rfl rfl rfl rfl (Nat.le_of_ble_eq_true rfl) (by decide +kernel) ?_
  refine a_al (pc := 39) (n := 0) h (by decide +kernel) rfl (List.mem_cons_self) ?_
  refine a_psh (pc := 40) (n := ((4 : Nat) : Int)) (len := 1) h (Or.inl ⟨(by decide +kernel), rfl⟩) ?_
  refine b_newI (pc := 41) (nr := 4) h k_56 (by decide +kernel) (by decide) (hr.le (by decide) (by decide)) (fun q6 => ?_)
  refine a_putF (pc := 43) (K := 8) (o := 5) h hI (by decide) (by decide) k_77 rfl rfl rfl rfl (Nat.le_of_ble_eq_true rfl) (by decide +kernel) ?_
  refine a_al (pc := 46) (n := 0) h (by decide +kernel) rfl (List.mem_cons_self) ?_
  refine a_psh (pc := 47) (n := ((30 : Nat) : Int)) (len := 2) h (Or.inr (Or.inl ⟨(by decide +kernel), by decide +kernel, rfl⟩)) ?_
  refine b_newI (pc := 49) (nr := 30) h k_56 (by decide +kernel) (by decide) (hr.le (by decide) (by decide)) (fun q7 => ?_)
  refine a_putF (pc := 51) (K := 8) (o := 6) h hI (by decide) (by decide) k_79 rfl rfl rfl rfl (Nat.le_of_ble_eq_true rfl) (by decide +kernel) ?_
  refine a_al (pc := 54) (n := 0) h (by decide +kernel) rfl (List.mem_cons_self) ?_
  refine a_psh (pc := 55) (n := ((60 : Nat) : Int)) (len := 2) h (Or.inr (Or.inl ⟨(by decide +kernel), by decide +kernel, rfl⟩)) ?_
  refine b_newI (pc := 57) (nr := 60) h k_56 (by decide +kernel) (by decide) (hr.le (by decide) (by decide)) (fun q8 => ?_)
  refine a_putF (pc := 59) (K := 8) (o := 7) h hI (by decide) (by decide) k_81 rfl rfl rfl rfl (Nat.le_of_ble_eq_true rfl) (by decide +kernel) ?_
  refine a_al (pc := 62) (n := 0) h (by decide +kernel) rfl (List.mem_cons_self) ?_
  refine a_psh (pc := 63) (n := 0) (len := 1) h (Or.inl ⟨(by decide +kernel), rfl⟩) ?_
  refine a_put (pc := 64) (K := 8) (o := 8) h (by decide) (by decide) k_82 rfl rfl rfl (Nat.le_of_ble_eq_true rfl) (by decide +kernel) ?_
  refine a_al (pc := 67) (n := 0) h (by decide +kernel) rfl (List.mem_cons_self) ?_
  refine a_psh (pc := 68) (n := 0) (len := 1) h (Or.inl ⟨(by decide +kernel), rfl⟩) ?_
  refine a_put (pc := 69) (K := 8) (o := 9) h (by decide) (by decide) k_84 rfl rfl rfl (Nat.le_of_ble_eq_true rfl) (by decide +kernel) ?_
  refine a_al (pc := 72) (n := 0) h (by decide +kernel) rfl (List.mem_cons_self) ?_
  refine a_psh (pc := 73) (n := 0) (len := 1) h (Or.inl ⟨(by decide +kernel), rfl⟩) ?_
  refine a_put (pc := 74) (K := 8) (o := 10) h (by decide) (by decide) k_86 rfl rfl rfl (Nat.le_of_ble_eq_true rfl) (by decide +kernel) ?_
  refine a_al (pc := 77) (n := 0) h (by decide +kernel) rfl (List.mem_cons_self) ?_
  refine a_psh (pc := 78) (n := 0) (len := 1) h (Or.inl ⟨(by decide +kernel), rfl⟩) ?_
  refine a_put (pc := 79) (K := 8) (o := 11) h (by decide) (by decide) k_88 rfl rfl rfl (Nat.le_of_ble_eq_true rfl) (by decide +kernel) ?_
  refine a_ret (pc := 82) h hrt hB (Nat.le_of_ble_eq_true rfl) (Nat.le_of_ble_eq_true rfl) ?_ (by decide +kernel)
  refine ⟨alU B.1 [((8, j), h0), ((41, j), q1), ((42, j), q2), ((43, j), q3), ((44, j), q4), ((45, j), q5), ((46, j), q6), ((47, j), q7), ((48, j), q8)], fun k i hn => alU_no hn, by simp [alU], fun σ hb => ?_⟩
  have a0 : alU B.1 [((8, j), h0), ((41, j), q1), ((42, j), q2), ((43, j), q3), ((44, j), q4), ((45, j), q5), ((46, j), q6), ((47, j), q7), ((48, j), q8)] 8 j = h0 := by simp [alU]
  have a1 : alU B.1 [((8, j), h0), ((41, j), q1), ((42, j), q2), ((43, j), q3), ((44, j), q4), ((45, j), q5), ((46, j), q6), ((47, j), q7), ((48, j), q8)] 41 j = q1 := by simp [alU]
  have a2 : alU B.1 [((8, j), h0), ((41, j), q1), ((42, j), q2), ((43, j), q3), ((44, j), q4), ((45, j), q5), ((46, j), q6), ((47, j), q7), ((48, j), q8)] 42 j = q2 := by simp [alU]
  have a3 : alU B.1 [((8, j), h0), ((41, j), q1), ((42, j), q2), ((43, j), q3), ((44, j), q4), ((45, j), q5), ((46, j), q6), ((47, j), q7), ((48, j), q8)] 43 j = q3 := by simp [alU]
  have a4 : alU B.1 [((8, j), h0), ((41, j), q1), ((42, j), q2), ((43, j), q3), ((44, j), q4), ((45, j), q5), ((46, j), q6), ((47, j), q7), ((48, j), q8)] 44 j = q4 := by simp [alU]
  have a5 : alU B.1 [((8, j), h0), ((41, j), q1), ((42, j), q2), ((43, j), q3), ((44, j), q4), ((45, j), q5), ((46, j), q6), ((47, j), q7), ((48, j), q8)] 45 j = q5 := by simp [alU]
  have a6 : alU B.1 [((8, j), h0), ((41, j), q1), ((42, j), q2), ((43, j), q3), ((44, j), q4), ((45, j), q5), ((46, j), q6), ((47, j), q7), ((48, j), q8)] 46 j = q6 := by simp [alU]
  have a7 : alU B.1 [((8, j), h0), ((41, j), q1), ((42, j), q2), ((43, j), q3), ((44, j), q4), ((45, j), q5), ((46, j), q6), ((47, j), q7), ((48, j), q8)] 47 j = q7 := by simp [alU]
  have a8 : alU B.1 [((8, j), h0), ((41, j), q1), ((42, j), q2), ((43, j), q3), ((44, j), q4), ((45, j), q5), ((46, j), q6), ((47, j), q7), ((48, j), q8)] 48 j = q8 := by simp [alU]
  generalize alU B.1 [((8, j), h0), ((41, j), q1), ((42, j), q2), ((43, j), q3), ((44, j), q4), ((45, j), q5), ((46, j), q6), ((47, j), q7), ((48, j), q8)] = al at *
  simp only [hB4]
  show ws ++ (h0, .inr (8, [.ref q1, .ref q2, .ref q3, .ref q4, .ref q5, .ref q6, .ref q7, .ref q8, .int (Int32.ofInt 0), .int (Int32.ofInt 0), .int (Int32.ofInt 0), .int (Int32.ofInt 0)])) :: [(q1, .inl (B.2.2.2.1 0, 4, .inl (fun _ => 0))), (q2, .inl (B.2.2.2.1 0, 4, .inl (fun _ => 0))), (q3, .inl (B.2.2.2.1 0, 4, .inl (fun _ => 0))), (q4, .inl (B.2.2.2.1 0, 4, .inl (fun _ => 0))), (q5, .inl (B.2.2.2.1 0, 4, .inl (fun _ => 0))), (q6, .inl (B.2.2.2.1 0, 4, .inl (fun _ => 0))), (q7, .inl (B.2.2.2.1 0, 30, .inl (fun _ => 0))), (q8, .inl (B.2.2.2.1 0, 60, .inl (fun _ => 0)))] = ws ++ [(al 8 j, cel (al, nwD 8 j, B.2.2) σ 8 j), (al 41 j, cel (al, nwD 8 j, B.2.2) σ 41 j), (al 42 j, cel (al, nwD 8 j, B.2.2) σ 42 j), (al 43 j, cel (al, nwD 8 j, B.2.2) σ 43 j), (al 44 j, cel (al, nwD 8 j, B.2.2) σ 44 j), (al 45 j, cel (al, nwD 8 j, B.2.2) σ 45 j), (al 46 j, cel (al, nwD 8 j, B.2.2) σ 46 j), (al 47 j, cel (al, nwD 8 j, B.2.2) σ 47 j), (al 48 j, cel (al, nwD 8 j, B.2.2) σ 48 j)]
  rw [cel_o (show 8 < 11 by decide), row0 (B := (al, nwD 8 j, B.2.2)) (k := 41) (j := j) (by decide) rfl (fun o => (hb (41, j) (by simp [nwD]) o).1), row0 (B := (al, nwD 8 j, B.2.2)) (k := 42) (j := j) (by decide) rfl (fun o => (hb (42, j) (by simp [nwD]) o).1), row0 (B := (al, nwD 8 j, B.2.2)) (k := 43) (j := j) (by decide) rfl (fun o => (hb (43, j) (by simp [nwD]) o).1), row0 (B := (al, nwD 8 j, B.2.2)) (k := 44) (j := j) (by decide) rfl (fun o => (hb (44, j) (by simp [nwD]) o).1), row0 (B := (al, nwD 8 j, B.2.2)) (k := 45) (j := j) (by decide) rfl (fun o => (hb (45, j) (by simp [nwD]) o).1), row0 (B := (al, nwD 8 j, B.2.2)) (k := 46) (j := j) (by decide) rfl (fun o => (hb (46, j) (by simp [nwD]) o).1), row0 (B := (al, nwD 8 j, B.2.2)) (k := 47) (j := j) (by decide) rfl (fun o => (hb (47, j) (by simp [nwD]) o).1), row0 (B := (al, nwD 8 j, B.2.2)) (k := 48) (j := j) (by decide) rfl (fun o => (hb (48, j) (by simp [nwD]) o).1)]
  have ef : (List.range (jn 8)).map (fv al σ 8 j) = [.ref q1, .ref q2, .ref q3, .ref q4, .ref q5, .ref q6, .ref q7, .ref q8, .int (Int32.ofInt 0), .int (Int32.ofInt 0), .int (Int32.ofInt 0), .int (Int32.ofInt 0)] := by
    show [fv al σ 8 j 0, fv al σ 8 j 1, fv al σ 8 j 2, fv al σ 8 j 3, fv al σ 8 j 4, fv al σ 8 j 5, fv al σ 8 j 6, fv al σ 8 j 7, fv al σ 8 j 8, fv al σ 8 j 9, fv al σ 8 j 10, fv al σ 8 j 11] = _
    rw [show fv al σ 8 j 0 = .ref q1 from congrArg Value.ref a1, show fv al σ 8 j 1 = .ref q2 from congrArg Value.ref a2, show fv al σ 8 j 2 = .ref q3 from congrArg Value.ref a3, show fv al σ 8 j 3 = .ref q4 from congrArg Value.ref a4, show fv al σ 8 j 4 = .ref q5 from congrArg Value.ref a5, show fv al σ 8 j 5 = .ref q6 from congrArg Value.ref a6, show fv al σ 8 j 6 = .ref q7 from congrArg Value.ref a7, show fv al σ 8 j 7 = .ref q8 from congrArg Value.ref a8, show fv al σ 8 j 8 = .int (Int32.ofInt 0) from congrArg (fun z => Value.int (Int32.ofInt z)) ((hb (8, j) (by simp [nwD]) 8).1), show fv al σ 8 j 9 = .int (Int32.ofInt 0) from congrArg (fun z => Value.int (Int32.ofInt z)) ((hb (8, j) (by simp [nwD]) 9).1), show fv al σ 8 j 10 = .int (Int32.ofInt 0) from congrArg (fun z => Value.int (Int32.ofInt z)) ((hb (8, j) (by simp [nwD]) 10).1), show fv al σ 8 j 11 = .int (Int32.ofInt 0) from congrArg (fun z => Value.int (Int32.ofInt z)) ((hb (8, j) (by simp [nwD]) 11).1)]
  rw [ef, a0, a1, a2, a3, a4, a5, a6, a7, a8]
  all_goals rfl
def M_RU_init : jMT := (⟨"LosersBooks$Rumours", "<init>", "()V"⟩, prog_8_method_1_code, 1, none)
theorem v_RU_init : VI M_RU_init 0 := ⟨k_139, k_138, k_5, rfl, ⟨by decide +kernel, by decide +kernel⟩, by decide +kernel, by decide, rfl⟩
theorem cn_RU {d j : Nat} (l : Launch) (B : jB) (ws : va_W) (h0 : Nat) : Met l M_RU_init.1 [.code M_RU_init.1 M_RU_init.2.1 M_RU_init.2.2.1 M_RU_init.2.2.2] (rmc (d + 1) 6 46) (PcN B (ws ++ [(h0, .inr (6, [.null, .null, .null, .null, .null, .null, .int 0, .int 0, .int 0]))]) [.ref h0]) (QcN B (Nw B ws (nwD 6 j) 6 j h0)) 6 46 (sysA B) := by
  refine Cn.intro (own := "LosersBooks$Rumours") (by decide +kernel) rfl rfl (Nat.le_of_ble_eq_true rfl) (fun X h hI hR hr hrt hB => ?_)
  have hB4 : ∀ c, (xB X).2.2.2.1 c = B.2.2.2.1 c := fun c => by rw [hB]; rfl
  refine a_al (pc := 0) (n := 0) h (by decide +kernel) rfl (List.mem_cons_self) ?_
  refine a_obj (pc := 1) h hR k_140 k_31 k_32 (by decide +kernel) ?_
  refine a_al (pc := 4) (n := 0) h (by decide +kernel) rfl (List.mem_cons_self) ?_
  refine a_psh (pc := 5) (n := ((10 : Nat) : Int)) (len := 2) h (Or.inr (Or.inl ⟨(by decide +kernel), by decide +kernel, rfl⟩)) ?_
  refine b_newI (pc := 7) (nr := 10) h k_56 (by decide +kernel) (by decide) (hr.le (by decide) (by decide)) (fun q1 => ?_)
  refine a_putF (pc := 9) (K := 6) (o := 0) h hI (by decide) (by decide) k_141 rfl rfl rfl rfl (Nat.le_of_ble_eq_true rfl) (by decide +kernel) ?_
  refine a_al (pc := 12) (n := 0) h (by decide +kernel) rfl (List.mem_cons_self) ?_
  refine a_psh (pc := 13) (n := ((10 : Nat) : Int)) (len := 2) h (Or.inr (Or.inl ⟨(by decide +kernel), by decide +kernel, rfl⟩)) ?_
  refine b_newI (pc := 15) (nr := 10) h k_56 (by decide +kernel) (by decide) (hr.le (by decide) (by decide)) (fun q2 => ?_)
  refine a_putF (pc := 17) (K := 6) (o := 1) h hI (by decide) (by decide) k_142 rfl rfl rfl rfl (Nat.le_of_ble_eq_true rfl) (by decide +kernel) ?_
  refine a_al (pc := 20) (n := 0) h (by decide +kernel) rfl (List.mem_cons_self) ?_
  refine a_psh (pc := 21) (n := ((10 : Nat) : Int)) (len := 2) h (Or.inr (Or.inl ⟨(by decide +kernel), by decide +kernel, rfl⟩)) ?_
  refine b_newI (pc := 23) (nr := 10) h k_56 (by decide +kernel) (by decide) (hr.le (by decide) (by decide)) (fun q3 => ?_)
  refine a_putF (pc := 25) (K := 6) (o := 2) h hI (by decide) (by decide) k_143 rfl rfl rfl rfl (Nat.le_of_ble_eq_true rfl) (by decide +kernel) ?_
  refine a_al (pc := 28) (n := 0) h (by decide +kernel) rfl (List.mem_cons_self) ?_
  refine a_psh (pc := 29) (n := ((4 : Nat) : Int)) (len := 1) h (Or.inl ⟨(by decide +kernel), rfl⟩) ?_
  refine b_newI (pc := 30) (nr := 4) h k_56 (by decide +kernel) (by decide) (hr.le (by decide) (by decide)) (fun q4 => ?_)
  refine a_putF (pc := 32) (K := 6) (o := 3) h hI (by decide) (by decide) k_144 rfl rfl rfl rfl (Nat.le_of_ble_eq_true rfl) (by decide +kernel) ?_
  refine a_al (pc := 35) (n := 0) h (by decide +kernel) rfl (List.mem_cons_self) ?_
  refine a_psh (pc := 36) (n := ((8 : Nat) : Int)) (len := 2) h (Or.inr (Or.inl ⟨(by decide +kernel), by decide +kernel, rfl⟩)) ?_
  refine b_newI (pc := 38) (nr := 8) h k_56 (by decide +kernel) (by decide) (hr.le (by decide) (by decide)) (fun q5 => ?_)
  refine a_putF (pc := 40) (K := 6) (o := 4) h hI (by decide) (by decide) k_145 rfl rfl rfl rfl (Nat.le_of_ble_eq_true rfl) (by decide +kernel) ?_
  refine a_al (pc := 43) (n := 0) h (by decide +kernel) rfl (List.mem_cons_self) ?_
  refine a_psh (pc := 44) (n := ((4 : Nat) : Int)) (len := 1) h (Or.inl ⟨(by decide +kernel), rfl⟩) ?_
  refine b_newI (pc := 45) (nr := 4) h k_56 (by decide +kernel) (by decide) (hr.le (by decide) (by decide)) (fun q6 => ?_)
  refine a_putF (pc := 47) (K := 6) (o := 5) h hI (by decide) (by decide) k_146 rfl rfl rfl rfl (Nat.le_of_ble_eq_true rfl) (by decide +kernel) ?_
  refine a_al (pc := 50) (n := 0) h (by decide +kernel) rfl (List.mem_cons_self) ?_
  refine a_psh (pc := 51) (n := 0) (len := 1) h (Or.inl ⟨(by decide +kernel), rfl⟩) ?_
  refine a_put (pc := 52) (K := 6) (o := 6) h (by decide) (by decide) k_147 rfl rfl rfl (Nat.le_of_ble_eq_true rfl) (by decide +kernel) ?_
  refine a_al (pc := 55) (n := 0) h (by decide +kernel) rfl (List.mem_cons_self) ?_
  refine a_psh (pc := 56) (n := 0) (len := 1) h (Or.inl ⟨(by decide +kernel), rfl⟩) ?_
  refine a_put (pc := 57) (K := 6) (o := 7) h (by decide) (by decide) k_148 rfl rfl rfl (Nat.le_of_ble_eq_true rfl) (by decide +kernel) ?_
  refine a_al (pc := 60) (n := 0) h (by decide +kernel) rfl (List.mem_cons_self) ?_
  refine a_psh (pc := 61) (n := 1) (len := 1) h (Or.inl ⟨(by decide +kernel), rfl⟩) ?_
  refine a_put (pc := 62) (K := 6) (o := 8) h (by decide) (by decide) k_150 rfl rfl rfl (Nat.le_of_ble_eq_true rfl) (by decide +kernel) ?_
  refine a_ret (pc := 65) h hrt hB (Nat.le_of_ble_eq_true rfl) (Nat.le_of_ble_eq_true rfl) ?_ (by decide +kernel)
  refine ⟨alU B.1 [((6, j), h0), ((34, j), q1), ((35, j), q2), ((36, j), q3), ((37, j), q4), ((38, j), q5), ((39, j), q6)], fun k i hn => alU_no hn, by simp [alU], fun σ hb => ?_⟩
  have a0 : alU B.1 [((6, j), h0), ((34, j), q1), ((35, j), q2), ((36, j), q3), ((37, j), q4), ((38, j), q5), ((39, j), q6)] 6 j = h0 := by simp [alU]
  have a1 : alU B.1 [((6, j), h0), ((34, j), q1), ((35, j), q2), ((36, j), q3), ((37, j), q4), ((38, j), q5), ((39, j), q6)] 34 j = q1 := by simp [alU]
  have a2 : alU B.1 [((6, j), h0), ((34, j), q1), ((35, j), q2), ((36, j), q3), ((37, j), q4), ((38, j), q5), ((39, j), q6)] 35 j = q2 := by simp [alU]
  have a3 : alU B.1 [((6, j), h0), ((34, j), q1), ((35, j), q2), ((36, j), q3), ((37, j), q4), ((38, j), q5), ((39, j), q6)] 36 j = q3 := by simp [alU]
  have a4 : alU B.1 [((6, j), h0), ((34, j), q1), ((35, j), q2), ((36, j), q3), ((37, j), q4), ((38, j), q5), ((39, j), q6)] 37 j = q4 := by simp [alU]
  have a5 : alU B.1 [((6, j), h0), ((34, j), q1), ((35, j), q2), ((36, j), q3), ((37, j), q4), ((38, j), q5), ((39, j), q6)] 38 j = q5 := by simp [alU]
  have a6 : alU B.1 [((6, j), h0), ((34, j), q1), ((35, j), q2), ((36, j), q3), ((37, j), q4), ((38, j), q5), ((39, j), q6)] 39 j = q6 := by simp [alU]
  generalize alU B.1 [((6, j), h0), ((34, j), q1), ((35, j), q2), ((36, j), q3), ((37, j), q4), ((38, j), q5), ((39, j), q6)] = al at *
  simp only [hB4]
  show ws ++ (h0, .inr (6, [.ref q1, .ref q2, .ref q3, .ref q4, .ref q5, .ref q6, .int (Int32.ofInt 0), .int (Int32.ofInt 0), .int (Int32.ofInt 1)])) :: [(q1, .inl (B.2.2.2.1 0, 10, .inl (fun _ => 0))), (q2, .inl (B.2.2.2.1 0, 10, .inl (fun _ => 0))), (q3, .inl (B.2.2.2.1 0, 10, .inl (fun _ => 0))), (q4, .inl (B.2.2.2.1 0, 4, .inl (fun _ => 0))), (q5, .inl (B.2.2.2.1 0, 8, .inl (fun _ => 0))), (q6, .inl (B.2.2.2.1 0, 4, .inl (fun _ => 0)))] = ws ++ [(al 6 j, cel (al, nwD 6 j, B.2.2) σ 6 j), (al 34 j, cel (al, nwD 6 j, B.2.2) σ 34 j), (al 35 j, cel (al, nwD 6 j, B.2.2) σ 35 j), (al 36 j, cel (al, nwD 6 j, B.2.2) σ 36 j), (al 37 j, cel (al, nwD 6 j, B.2.2) σ 37 j), (al 38 j, cel (al, nwD 6 j, B.2.2) σ 38 j), (al 39 j, cel (al, nwD 6 j, B.2.2) σ 39 j)]
  rw [cel_o (show 6 < 11 by decide), row0 (B := (al, nwD 6 j, B.2.2)) (k := 34) (j := j) (by decide) rfl (fun o => (hb (34, j) (by simp [nwD]) o).1), row0 (B := (al, nwD 6 j, B.2.2)) (k := 35) (j := j) (by decide) rfl (fun o => (hb (35, j) (by simp [nwD]) o).1), row0 (B := (al, nwD 6 j, B.2.2)) (k := 36) (j := j) (by decide) rfl (fun o => (hb (36, j) (by simp [nwD]) o).1), row0 (B := (al, nwD 6 j, B.2.2)) (k := 37) (j := j) (by decide) rfl (fun o => (hb (37, j) (by simp [nwD]) o).1), row0 (B := (al, nwD 6 j, B.2.2)) (k := 38) (j := j) (by decide) rfl (fun o => (hb (38, j) (by simp [nwD]) o).1), row0 (B := (al, nwD 6 j, B.2.2)) (k := 39) (j := j) (by decide) rfl (fun o => (hb (39, j) (by simp [nwD]) o).1)]
  have ef : (List.range (jn 6)).map (fv al σ 6 j) = [.ref q1, .ref q2, .ref q3, .ref q4, .ref q5, .ref q6, .int (Int32.ofInt 0), .int (Int32.ofInt 0), .int (Int32.ofInt 1)] := by
    show [fv al σ 6 j 0, fv al σ 6 j 1, fv al σ 6 j 2, fv al σ 6 j 3, fv al σ 6 j 4, fv al σ 6 j 5, fv al σ 6 j 6, fv al σ 6 j 7, fv al σ 6 j 8] = _
    rw [show fv al σ 6 j 0 = .ref q1 from congrArg Value.ref a1, show fv al σ 6 j 1 = .ref q2 from congrArg Value.ref a2, show fv al σ 6 j 2 = .ref q3 from congrArg Value.ref a3, show fv al σ 6 j 3 = .ref q4 from congrArg Value.ref a4, show fv al σ 6 j 4 = .ref q5 from congrArg Value.ref a5, show fv al σ 6 j 5 = .ref q6 from congrArg Value.ref a6, show fv al σ 6 j 6 = .int (Int32.ofInt 0) from congrArg (fun z => Value.int (Int32.ofInt z)) ((hb (6, j) (by simp [nwD]) 6).1), show fv al σ 6 j 7 = .int (Int32.ofInt 0) from congrArg (fun z => Value.int (Int32.ofInt z)) ((hb (6, j) (by simp [nwD]) 7).1), show fv al σ 6 j 8 = .int (Int32.ofInt 1) from congrArg (fun z => Value.int (Int32.ofInt z)) ((hb (6, j) (by simp [nwD]) 8).1)]
  rw [ef, a0, a1, a2, a3, a4, a5, a6]
  all_goals rfl
def M_RE_init : jMT := (⟨"LosersBooks$Realm", "<init>", "()V"⟩, prog_7_method_1_code, 1, none)
theorem v_RE_init : VI M_RE_init 0 := ⟨k_185, k_184, k_7, rfl, ⟨by decide +kernel, by decide +kernel⟩, by decide +kernel, by decide, rfl⟩
theorem cn_RE {d j : Nat} (l : Launch) (B : jB) (ws : va_W) (h0 : Nat) : Met l M_RE_init.1 [.code M_RE_init.1 M_RE_init.2.1 M_RE_init.2.2.1 M_RE_init.2.2.2] (rmc (d + 3) 8 48) (PcN B (ws ++ [(h0, .inr (5, [.null, .null, .null, .null, .null, .null, .null, .null, .int 0, .int 0, .int 0, .int 0, .int 0]))]) [.ref h0]) (QcN B (Nw B ws (nwD 5 j) 5 j h0)) 8 48 (sysA B) := by
  refine Cn.intro (own := "LosersBooks$Realm") (by decide +kernel) rfl rfl (Nat.le_of_ble_eq_true rfl) (fun X h hI hR hr hrt hB => ?_)
  have hB4 : ∀ c, (xB X).2.2.2.1 c = B.2.2.2.1 c := fun c => by rw [hB]; rfl
  refine a_al (pc := 0) (n := 0) h (by decide +kernel) rfl (List.mem_cons_self) ?_
  refine a_obj (pc := 1) h hR k_186 k_31 k_32 (by decide +kernel) ?_
  refine a_al (pc := 4) (n := 0) h (by decide +kernel) rfl (List.mem_cons_self) ?_
  refine a_psh (pc := 5) (n := ((4 : Nat) : Int)) (len := 1) h (Or.inl ⟨(by decide +kernel), rfl⟩) ?_
  refine b_newI (pc := 6) (nr := 4) h k_56 (by decide +kernel) (by decide) (hr.le (by decide) (by decide)) (fun q1 => ?_)
  refine a_putF (pc := 8) (K := 5) (o := 0) h hI (by decide) (by decide) k_198 rfl rfl rfl rfl (Nat.le_of_ble_eq_true rfl) (by decide +kernel) ?_
  refine a_al (pc := 11) (n := 0) h (by decide +kernel) rfl (List.mem_cons_self) ?_
  refine a_psh (pc := 12) (n := ((4 : Nat) : Int)) (len := 1) h (Or.inl ⟨(by decide +kernel), rfl⟩) ?_
  refine b_newI (pc := 13) (nr := 4) h k_56 (by decide +kernel) (by decide) (hr.le (by decide) (by decide)) (fun q2 => ?_)
  refine a_putF (pc := 15) (K := 5) (o := 1) h hI (by decide) (by decide) k_200 rfl rfl rfl rfl (Nat.le_of_ble_eq_true rfl) (by decide +kernel) ?_
  refine a_al (pc := 18) (n := 0) h (by decide +kernel) rfl (List.mem_cons_self) ?_
  refine a_psh (pc := 19) (n := ((4 : Nat) : Int)) (len := 1) h (Or.inl ⟨(by decide +kernel), rfl⟩) ?_
  refine b_newI (pc := 20) (nr := 4) h k_56 (by decide +kernel) (by decide) (hr.le (by decide) (by decide)) (fun q3 => ?_)
  refine a_putF (pc := 22) (K := 5) (o := 2) h hI (by decide) (by decide) k_202 rfl rfl rfl rfl (Nat.le_of_ble_eq_true rfl) (by decide +kernel) ?_
  refine a_al (pc := 25) (n := 0) h (by decide +kernel) rfl (List.mem_cons_self) ?_
  refine a_psh (pc := 26) (n := ((8 : Nat) : Int)) (len := 2) h (Or.inr (Or.inl ⟨(by decide +kernel), by decide +kernel, rfl⟩)) ?_
  refine b_newI (pc := 28) (nr := 8) h k_56 (by decide +kernel) (by decide) (hr.le (by decide) (by decide)) (fun q4 => ?_)
  refine a_putF (pc := 30) (K := 5) (o := 3) h hI (by decide) (by decide) k_204 rfl rfl rfl rfl (Nat.le_of_ble_eq_true rfl) (by decide +kernel) ?_
  refine a_al (pc := 33) (n := 0) h (by decide +kernel) rfl (List.mem_cons_self) ?_
  refine a_psh (pc := 34) (n := ((8 : Nat) : Int)) (len := 2) h (Or.inr (Or.inl ⟨(by decide +kernel), by decide +kernel, rfl⟩)) ?_
  refine b_newI (pc := 36) (nr := 8) h k_56 (by decide +kernel) (by decide) (hr.le (by decide) (by decide)) (fun q5 => ?_)
  refine a_putF (pc := 38) (K := 5) (o := 4) h hI (by decide) (by decide) k_206 rfl rfl rfl rfl (Nat.le_of_ble_eq_true rfl) (by decide +kernel) ?_
  refine a_al (pc := 41) (n := 0) h (by decide +kernel) rfl (List.mem_cons_self) ?_
  refine a_psh (pc := 42) (n := ((8 : Nat) : Int)) (len := 2) h (Or.inr (Or.inl ⟨(by decide +kernel), by decide +kernel, rfl⟩)) ?_
  refine b_newI (pc := 44) (nr := 8) h k_56 (by decide +kernel) (by decide) (hr.le (by decide) (by decide)) (fun q6 => ?_)
  refine a_putF (pc := 46) (K := 5) (o := 5) h hI (by decide) (by decide) k_208 rfl rfl rfl rfl (Nat.le_of_ble_eq_true rfl) (by decide +kernel) ?_
  refine a_al (pc := 49) (n := 0) h (by decide +kernel) rfl (List.mem_cons_self) ?_
  refine a_psh (pc := 50) (n := ((8 : Nat) : Int)) (len := 2) h (Or.inr (Or.inl ⟨(by decide +kernel), by decide +kernel, rfl⟩)) ?_
  refine b_newI (pc := 52) (nr := 8) h k_56 (by decide +kernel) (by decide) (hr.le (by decide) (by decide)) (fun q7 => ?_)
  refine a_putF (pc := 54) (K := 5) (o := 6) h hI (by decide) (by decide) k_211 rfl rfl rfl rfl (Nat.le_of_ble_eq_true rfl) (by decide +kernel) ?_
  refine a_al (pc := 57) (n := 0) h (by decide +kernel) rfl (List.mem_cons_self) ?_
  refine a_str (pc := 58) (ix := 33) (tx := "abgn") (j := 2) h (by decide +kernel) (by decide +kernel) ?_
  refine a_len (pc := 60) (d := d) h hR (by decide) k_188 (Nat.le_of_ble_eq_true rfl) (hr.le (by decide) (by decide)) (by decide +kernel) ?_
  refine b_newI (pc := 63) (nr := 4) h k_56 (by decide +kernel) (by decide) (hr.le (by decide) (by decide)) (fun q8 => ?_)
  refine a_putF (pc := 65) (K := 5) (o := 7) h hI (by decide) (by decide) k_214 rfl rfl rfl rfl (Nat.le_of_ble_eq_true rfl) (by decide +kernel) ?_
  refine a_al (pc := 68) (n := 0) h (by decide +kernel) rfl (List.mem_cons_self) ?_
  refine a_psh (pc := 69) (n := 0) (len := 1) h (Or.inl ⟨(by decide +kernel), rfl⟩) ?_
  refine a_put (pc := 70) (K := 5) (o := 8) h (by decide) (by decide) k_215 rfl rfl rfl (Nat.le_of_ble_eq_true rfl) (by decide +kernel) ?_
  refine a_al (pc := 73) (n := 0) h (by decide +kernel) rfl (List.mem_cons_self) ?_
  refine a_psh (pc := 74) (n := 0) (len := 1) h (Or.inl ⟨(by decide +kernel), rfl⟩) ?_
  refine a_put (pc := 75) (K := 5) (o := 9) h (by decide) (by decide) k_217 rfl rfl rfl (Nat.le_of_ble_eq_true rfl) (by decide +kernel) ?_
  refine a_al (pc := 78) (n := 0) h (by decide +kernel) rfl (List.mem_cons_self) ?_
  refine a_psh (pc := 79) (n := 0) (len := 1) h (Or.inl ⟨(by decide +kernel), rfl⟩) ?_
  refine a_put (pc := 80) (K := 5) (o := 10) h (by decide) (by decide) k_220 rfl rfl rfl (Nat.le_of_ble_eq_true rfl) (by decide +kernel) ?_
  refine a_al (pc := 83) (n := 0) h (by decide +kernel) rfl (List.mem_cons_self) ?_
  refine a_psh (pc := 84) (n := 1) (len := 1) h (Or.inl ⟨(by decide +kernel), rfl⟩) ?_
  refine a_put (pc := 85) (K := 5) (o := 11) h (by decide) (by decide) k_221 rfl rfl rfl (Nat.le_of_ble_eq_true rfl) (by decide +kernel) ?_
  refine a_al (pc := 88) (n := 0) h (by decide +kernel) rfl (List.mem_cons_self) ?_
  refine a_psh (pc := 89) (n := 0) (len := 1) h (Or.inl ⟨(by decide +kernel), rfl⟩) ?_
  refine a_put (pc := 90) (K := 5) (o := 12) h (by decide) (by decide) k_223 rfl rfl rfl (Nat.le_of_ble_eq_true rfl) (by decide +kernel) ?_
  refine a_ret (pc := 93) h hrt hB (Nat.le_of_ble_eq_true rfl) (Nat.le_of_ble_eq_true rfl) ?_ (by decide +kernel)
  refine ⟨alU B.1 [((5, j), h0), ((26, j), q1), ((27, j), q2), ((28, j), q3), ((29, j), q4), ((30, j), q5), ((31, j), q6), ((32, j), q7), ((33, j), q8)], fun k i hn => alU_no hn, by simp [alU], fun σ hb => ?_⟩
  have a0 : alU B.1 [((5, j), h0), ((26, j), q1), ((27, j), q2), ((28, j), q3), ((29, j), q4), ((30, j), q5), ((31, j), q6), ((32, j), q7), ((33, j), q8)] 5 j = h0 := by simp [alU]
  have a1 : alU B.1 [((5, j), h0), ((26, j), q1), ((27, j), q2), ((28, j), q3), ((29, j), q4), ((30, j), q5), ((31, j), q6), ((32, j), q7), ((33, j), q8)] 26 j = q1 := by simp [alU]
  have a2 : alU B.1 [((5, j), h0), ((26, j), q1), ((27, j), q2), ((28, j), q3), ((29, j), q4), ((30, j), q5), ((31, j), q6), ((32, j), q7), ((33, j), q8)] 27 j = q2 := by simp [alU]
  have a3 : alU B.1 [((5, j), h0), ((26, j), q1), ((27, j), q2), ((28, j), q3), ((29, j), q4), ((30, j), q5), ((31, j), q6), ((32, j), q7), ((33, j), q8)] 28 j = q3 := by simp [alU]
  have a4 : alU B.1 [((5, j), h0), ((26, j), q1), ((27, j), q2), ((28, j), q3), ((29, j), q4), ((30, j), q5), ((31, j), q6), ((32, j), q7), ((33, j), q8)] 29 j = q4 := by simp [alU]
  have a5 : alU B.1 [((5, j), h0), ((26, j), q1), ((27, j), q2), ((28, j), q3), ((29, j), q4), ((30, j), q5), ((31, j), q6), ((32, j), q7), ((33, j), q8)] 30 j = q5 := by simp [alU]
  have a6 : alU B.1 [((5, j), h0), ((26, j), q1), ((27, j), q2), ((28, j), q3), ((29, j), q4), ((30, j), q5), ((31, j), q6), ((32, j), q7), ((33, j), q8)] 31 j = q6 := by simp [alU]
  have a7 : alU B.1 [((5, j), h0), ((26, j), q1), ((27, j), q2), ((28, j), q3), ((29, j), q4), ((30, j), q5), ((31, j), q6), ((32, j), q7), ((33, j), q8)] 32 j = q7 := by simp [alU]
  have a8 : alU B.1 [((5, j), h0), ((26, j), q1), ((27, j), q2), ((28, j), q3), ((29, j), q4), ((30, j), q5), ((31, j), q6), ((32, j), q7), ((33, j), q8)] 33 j = q8 := by simp [alU]
  generalize alU B.1 [((5, j), h0), ((26, j), q1), ((27, j), q2), ((28, j), q3), ((29, j), q4), ((30, j), q5), ((31, j), q6), ((32, j), q7), ((33, j), q8)] = al at *
  simp only [hB4]
  show ws ++ (h0, .inr (5, [.ref q1, .ref q2, .ref q3, .ref q4, .ref q5, .ref q6, .ref q7, .ref q8, .int (Int32.ofInt 0), .int (Int32.ofInt 0), .int (Int32.ofInt 0), .int (Int32.ofInt 1), .int (Int32.ofInt 0)])) :: [(q1, .inl (B.2.2.2.1 0, 4, .inl (fun _ => 0))), (q2, .inl (B.2.2.2.1 0, 4, .inl (fun _ => 0))), (q3, .inl (B.2.2.2.1 0, 4, .inl (fun _ => 0))), (q4, .inl (B.2.2.2.1 0, 8, .inl (fun _ => 0))), (q5, .inl (B.2.2.2.1 0, 8, .inl (fun _ => 0))), (q6, .inl (B.2.2.2.1 0, 8, .inl (fun _ => 0))), (q7, .inl (B.2.2.2.1 0, 8, .inl (fun _ => 0))), (q8, .inl (B.2.2.2.1 0, 4, .inl (fun _ => 0)))] = ws ++ [(al 5 j, cel (al, nwD 5 j, B.2.2) σ 5 j), (al 26 j, cel (al, nwD 5 j, B.2.2) σ 26 j), (al 27 j, cel (al, nwD 5 j, B.2.2) σ 27 j), (al 28 j, cel (al, nwD 5 j, B.2.2) σ 28 j), (al 29 j, cel (al, nwD 5 j, B.2.2) σ 29 j), (al 30 j, cel (al, nwD 5 j, B.2.2) σ 30 j), (al 31 j, cel (al, nwD 5 j, B.2.2) σ 31 j), (al 32 j, cel (al, nwD 5 j, B.2.2) σ 32 j), (al 33 j, cel (al, nwD 5 j, B.2.2) σ 33 j)]
  rw [cel_o (show 5 < 11 by decide), row0 (B := (al, nwD 5 j, B.2.2)) (k := 26) (j := j) (by decide) rfl (fun o => (hb (26, j) (by simp [nwD]) o).1), row0 (B := (al, nwD 5 j, B.2.2)) (k := 27) (j := j) (by decide) rfl (fun o => (hb (27, j) (by simp [nwD]) o).1), row0 (B := (al, nwD 5 j, B.2.2)) (k := 28) (j := j) (by decide) rfl (fun o => (hb (28, j) (by simp [nwD]) o).1), row0 (B := (al, nwD 5 j, B.2.2)) (k := 29) (j := j) (by decide) rfl (fun o => (hb (29, j) (by simp [nwD]) o).1), row0 (B := (al, nwD 5 j, B.2.2)) (k := 30) (j := j) (by decide) rfl (fun o => (hb (30, j) (by simp [nwD]) o).1), row0 (B := (al, nwD 5 j, B.2.2)) (k := 31) (j := j) (by decide) rfl (fun o => (hb (31, j) (by simp [nwD]) o).1), row0 (B := (al, nwD 5 j, B.2.2)) (k := 32) (j := j) (by decide) rfl (fun o => (hb (32, j) (by simp [nwD]) o).1), row0 (B := (al, nwD 5 j, B.2.2)) (k := 33) (j := j) (by decide) rfl (fun o => (hb (33, j) (by simp [nwD]) o).1)]
  have ef : (List.range (jn 5)).map (fv al σ 5 j) = [.ref q1, .ref q2, .ref q3, .ref q4, .ref q5, .ref q6, .ref q7, .ref q8, .int (Int32.ofInt 0), .int (Int32.ofInt 0), .int (Int32.ofInt 0), .int (Int32.ofInt 1), .int (Int32.ofInt 0)] := by
    show [fv al σ 5 j 0, fv al σ 5 j 1, fv al σ 5 j 2, fv al σ 5 j 3, fv al σ 5 j 4, fv al σ 5 j 5, fv al σ 5 j 6, fv al σ 5 j 7, fv al σ 5 j 8, fv al σ 5 j 9, fv al σ 5 j 10, fv al σ 5 j 11, fv al σ 5 j 12] = _
    rw [show fv al σ 5 j 0 = .ref q1 from congrArg Value.ref a1, show fv al σ 5 j 1 = .ref q2 from congrArg Value.ref a2, show fv al σ 5 j 2 = .ref q3 from congrArg Value.ref a3, show fv al σ 5 j 3 = .ref q4 from congrArg Value.ref a4, show fv al σ 5 j 4 = .ref q5 from congrArg Value.ref a5, show fv al σ 5 j 5 = .ref q6 from congrArg Value.ref a6, show fv al σ 5 j 6 = .ref q7 from congrArg Value.ref a7, show fv al σ 5 j 7 = .ref q8 from congrArg Value.ref a8, show fv al σ 5 j 8 = .int (Int32.ofInt 0) from congrArg (fun z => Value.int (Int32.ofInt z)) ((hb (5, j) (by simp [nwD]) 8).1), show fv al σ 5 j 9 = .int (Int32.ofInt 0) from congrArg (fun z => Value.int (Int32.ofInt z)) ((hb (5, j) (by simp [nwD]) 9).1), show fv al σ 5 j 10 = .int (Int32.ofInt 0) from congrArg (fun z => Value.int (Int32.ofInt z)) ((hb (5, j) (by simp [nwD]) 10).1), show fv al σ 5 j 11 = .int (Int32.ofInt 1) from congrArg (fun z => Value.int (Int32.ofInt z)) ((hb (5, j) (by simp [nwD]) 11).1), show fv al σ 5 j 12 = .int (Int32.ofInt 0) from congrArg (fun z => Value.int (Int32.ofInt z)) ((hb (5, j) (by simp [nwD]) 12).1)]
  rw [ef, a0, a1, a2, a3, a4, a5, a6, a7, a8]
  all_goals rfl
def M_AC_init : jMT := (⟨"LosersBooks$Acts", "<init>", "()V"⟩, prog_2_method_1_code, 2, none)
theorem v_AC_init : VI M_AC_init 0 := ⟨k_119, k_118, k_4, rfl, ⟨by decide +kernel, by decide +kernel⟩, by decide +kernel, by decide, rfl⟩
def M_LR_init : jMT := (⟨"LosersBooks$LawReader", "<init>", "(LLosersBooks$Tape;LLosersBooks$Law;)V"⟩, prog_6_method_1_code, 3, none)
theorem v_LR_init : VI M_LR_init 2 := ⟨k_518, k_517, k_17, rfl, ⟨by decide +kernel, by decide +kernel⟩, by decide +kernel, by decide, rfl⟩
def M_LB_init : jMT := (⟨"LosersBooks", "<init>", "()V"⟩, prog_1_method_1_code, 1, none)
theorem v_LB_init : VI M_LB_init 0 := ⟨k_29, k_28, k_1, rfl, ⟨by decide +kernel, by decide +kernel⟩, by decide +kernel, by decide, rfl⟩
