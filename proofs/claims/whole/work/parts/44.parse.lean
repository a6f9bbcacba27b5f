/-! ===== 44 the grammar of laws, as a function: where the fault is, or where it goes on and the code ===== -/
abbrev PR : Type := Nat ⊕ (Nat × List Int)
abbrev jP : Type := Nat → PR
section PA
variable (T : Nat → Int) (n : Nat)
def nx (a : Nat) : Nat := nb T n (a + 1)
def pThen (r : PR) (g : Nat → List Int → PR) : PR := match r with
  | .inl p => .inl p
  | .inr (b, c) => g b c
def pExp (ch : Int) (b : Nat) (c : List Int) : PR := if sg T n b = ch then .inr (nx T n b, c) else .inl b
def pAtom (deep : Option jP) : jP := fun a =>
  if dig (sg T n a) then (match numR T n 4 9999 a with
    | .inl p => .inl p
    | .inr (b, v) => .inr (b, [v * 16]))
  else if 0 ≤ sidx 3 (sg T n a) then .inr (nx T n a, [sidx 3 (sg T n a) * 16 + 1])
  else if sg T n a = 91 then (match deep with
    | none => .inl a
    | some s => pThen (s (nx T n a)) (pExp T n 93))
  else .inl a
/-- one, and others behind signs: 'op' gives a sign's code, or -1 -/
def pLoop (item : jP) (op : Int → Int) : Nat → Nat → List Int → PR
  | 0, a, c => .inr (a, c)
  | m + 1, a, c => if op (sg T n a) < 0 then .inr (a, c) else pThen (item (nx T n a)) (fun b c2 => pLoop item op m b (c ++ c2 ++ [op (sg T n a)]))
def opT (x : Int) : Int := if x = 42 then 7 else if x = 47 then 8 else -1
def opS (x : Int) : Int := if x = 43 then 5 else if x = 45 then 6 else -1
def opA (x : Int) : Int := if x = 38 then 12 else -1
def opO (x : Int) : Int := if x = 124 then 13 else -1
def pTerm (deep : Option jP) : jP := fun a => pThen (pAtom T n deep a) (pLoop T n (pAtom T n deep) opT 240)
def pSum (deep : Option jP) : jP := fun a => pThen (pTerm T n deep a) (pLoop T n (pTerm T n deep) opS 240)
def pCmp (deep : Option jP) (a : Nat) (c : List Int) : PR :=
  if sidx 4 (sg T n a) < 0 then .inl a else pThen (pSum T n deep (nx T n a)) (fun b c2 => .inr (b, c ++ c2 ++ [9 + sidx 4 (sg T n a)]))
def pUnit (ds : Option jP) (du dc : Option jP) : jP := fun a =>
  if sg T n a = 33 then (match du with
    | none => .inl a
    | some u => pThen (u (nx T n a)) (fun b c => .inr (b, c ++ [4])))
  else if sg T n a = 40 then (match dc with
    | none => .inl a
    | some q => pThen (q (nx T n a)) (pExp T n 41))
  else pThen (pSum T n ds a) (pCmp T n ds)
def pTruth (ds du dc : Option jP) : jP := fun a => pThen (pUnit T n ds du dc a) (pLoop T n (pUnit T n ds du dc) opA 240)
def pCond (ds du dc : Option jP) : jP := fun a => pThen (pTruth T n ds du dc a) (pLoop T n (pTruth T n ds du dc) opO 240)
/-- by the depth that is left: sums, units, conditions -/
def pD : Nat → Option jP × Option jP × Option jP
  | 0 => (none, none, none)
  | r + 1 => (some (pSum T n (pD r).1), some (pUnit T n (pD r).1 (pD r).2.1 (pD r).2.2), some (pCond T n (pD r).1 (pD r).2.1 (pD r).2.2))
abbrev pSumR (r : Nat) : jP := pSum T n (pD T n r).1
abbrev pUnitR (r : Nat) : jP := pUnit T n (pD T n r).1 (pD T n r).2.1 (pD T n r).2.2
abbrev pTruthR (r : Nat) : jP := pTruth T n (pD T n r).1 (pD T n r).2.1 (pD T n r).2.2
abbrev pCondR (r : Nat) : jP := pCond T n (pD T n r).1 (pD T n r).2.1 (pD T n r).2.2
/-- behind a condition whose code is c; i0: where the clause begins -/
def pCned (i0 : Nat) (a : Nat) (c : List Int) : PR := if sg T n a = 63 then pThen (pSumR T n 6 (nx T n a)) (fun b c2 => .inr (b, c ++ [((i0 + c.length + c2.length + 2 : Nat) : Int) * 16 + 3] ++ c2 ++ [2])) else .inl a
def pCl2 (i0 : Nat) (a : Nat) : PR :=
  if sg T n a = 33 ∨ sg T n a = 40 then pThen (pCondR T n 6 a) (pCned T n i0)
  else pThen (pSumR T n 6 a) (fun b c => if 0 ≤ sidx 4 (sg T n b) then pThen (pThen (pThen (pCmp T n (pD T n 6).1 b c) (pLoop T n (pUnitR T n 6) opA 240)) (pLoop T n (pTruthR T n 6) opO 240)) (pCned T n i0) else .inr (b, c ++ [2]))
def pClause (i0 : Nat) (a : Nat) : PR := if sg T n a = 121 then (if sg T n (nx T n a) = 58 then pCl2 T n i0 (nx T n (nx T n a)) else .inl (nx T n a)) else .inl a
def pClauses : Nat → Nat → List Int → PR
  | 0, a, c => .inr (a, c)
  | m + 1, a, c => if sg T n a = 59 then pThen (pClause T n c.length (nx T n a)) (fun b c2 => pClauses m b (c ++ c2)) else .inr (a, c)
/-- a whole text -/
def pLaw : PR := pThen (pThen (pClause T n 0 (nb T n 0)) (pClauses T n 240)) (fun b c => if b < n then .inl b else .inr (b, c))
/-- a step's code isn't longer than what it has read -/
def pOK (P : Nat → PR) : Prop := ∀ a, a ≤ n → ∀ p, (P a = .inl p → p ≤ n) ∧ ∀ b c, P a = .inr (b, c) → b ≤ n ∧ a + c.length ≤ b
end PA
theorem sg_lt {T : Nat → Int} {n a : Nat} {x : Int} (h : sg T n a = x) (hx : 0 ≤ x) : a < n := by
  unfold sg at h
  split at h
  · assumption
  · omega
theorem nx_le {T : Nat → Int} {n a : Nat} (h : a < n) : nx T n a ≤ n := nb_le (by omega)
theorem nx_gt (T : Nat → Int) (n a : Nat) : a + 1 ≤ nx T n a := nb_ge T n (a + 1)
theorem sidx_lt {T : Nat → Int} {n a i : Nat} (h : 0 ≤ sidx i (sg T n a)) : a < n := by
  unfold sidx at h
  split at h
  · omega
  · rename_i h1
    exact sg_lt (x := sg T n a) rfl (by omega)
theorem pOK_atom {T : Nat → Int} {n : Nat} {deep : Option jP} (hd : ∀ s, deep = some s → pOK n s) : pOK n (pAtom T n deep) := by
  intro a ha p
  unfold pAtom
  by_cases h1 : dig (sg T n a)
  · rw [if_pos h1]
    have hl := dig_lt h1
    have hg := numL_ge T n 4 a 0
    have hg2 := hg.2 ha
    unfold numR
    rw [if_pos h1]
    split
    · rename_i q he
      refine ⟨fun z => ?_, fun b c z => by cases z⟩
      cases z
      split at he
      · cases he; exact hg2
      · split at he
        · cases he; omega
        · cases he
    · rename_i b v he
      refine ⟨fun z => (by cases z), fun b' c z => ?_⟩
      cases z
      split at he
      · cases he
      · split at he
        · cases he
        · cases he
          have hg3 : a + 1 ≤ (numL T n 4 a 0).1 := by
            conv => rhs; unfold numL
            rw [if_pos h1]
            exact (numL_ge T n 3 (a + 1) _).1
          exact ⟨nb_le hg2, by simp only [List.length_cons, List.length_nil]; have := nb_ge T n (numL T n 4 a 0).1; omega⟩
  · rw [if_neg h1]
    by_cases h2 : 0 ≤ sidx 3 (sg T n a)
    · rw [if_pos h2]
      have hl := sidx_lt h2
      refine ⟨fun z => (by cases z), fun b c z => ?_⟩
      cases z
      exact ⟨nx_le hl, by have := nx_gt T n a; simpa using this⟩
    · rw [if_neg h2]
      by_cases h3 : sg T n a = 91
      · rw [if_pos h3]
        have hl := sg_lt h3 (by decide)
        cases deep with
        | none => exact ⟨fun z => (by cases z; exact ha), fun b c z => by cases z⟩
        | some s =>
          have hs := hd s rfl (nx T n a) (nx_le hl)
          simp only [pThen]
          cases he : s (nx T n a) with
          | inl q => exact ⟨fun z => (by cases z; exact (hs _).1 he), fun b c z => by cases z⟩
          | inr q =>
            obtain ⟨b0, c0⟩ := q
            have h4 := (hs 0).2 b0 c0 he
            simp only [pExp]
            by_cases h5 : sg T n b0 = 93
            · rw [if_pos h5]
              have hl2 := sg_lt h5 (by decide)
              refine ⟨fun z => (by cases z), fun b c z => ?_⟩
              cases z
              have := nx_gt T n a
              have := nx_gt T n b0
              exact ⟨nx_le hl2, by omega⟩
            · rw [if_neg h5]
              exact ⟨fun z => (by cases z; exact h4.1), fun b c z => by cases z⟩
      · rw [if_neg h3]
        exact ⟨fun z => (by cases z; exact ha), fun b c z => by cases z⟩
theorem pOK_loop {T : Nat → Int} {n : Nat} {item : jP} {op : Int → Int} (hi : pOK n item) (ho : ∀ x, 0 ≤ op x → 0 ≤ x) : ∀ (m a : Nat) (c : List Int), a ≤ n → ∀ p, (pLoop T n item op m a c = .inl p → p ≤ n) ∧ ∀ b c', pLoop T n item op m a c = .inr (b, c') → b ≤ n ∧ ∃ c2, c' = c ++ c2 ∧ a + c2.length ≤ b := by
  intro m
  induction m with
  | zero => intro a c ha p; exact ⟨fun z => (by cases z), fun b c' z => by cases z; exact ⟨ha, [], by simp⟩⟩
  | succ m ih =>
    intro a c ha p
    unfold pLoop
    by_cases h1 : op (sg T n a) < 0
    · rw [if_pos h1]
      exact ⟨fun z => (by cases z), fun b c' z => by cases z; exact ⟨ha, [], by simp⟩⟩
    · rw [if_neg h1]
      have hl := sg_lt (T := T) (n := n) (a := a) rfl (ho _ (by omega))
      have hs := hi (nx T n a) (nx_le hl)
      have hg := nx_gt T n a
      simp only [pThen]
      cases he : item (nx T n a) with
      | inl q => exact ⟨fun z => (by cases z; exact (hs _).1 he), fun b c z => by cases z⟩
      | inr q =>
        obtain ⟨b0, c0⟩ := q
        have h4 := (hs 0).2 b0 c0 he
        have h5 := ih b0 (c ++ c0 ++ [op (sg T n a)]) h4.1 p
        refine ⟨h5.1, fun b c' z => ?_⟩
        obtain ⟨h6, c2, h7, h8⟩ := h5.2 b c' z
        exact ⟨h6, c0 ++ [op (sg T n a)] ++ c2, by rw [h7]; simp, by simp only [List.length_append, List.length_cons, List.length_nil]; omega⟩
theorem pOK_then {T : Nat → Int} {n : Nat} {P item : jP} {op : Int → Int} (hP : pOK n P) (hi : pOK n item) (ho : ∀ x, 0 ≤ op x → 0 ≤ x) (m : Nat) : pOK n (fun a => pThen (P a) (pLoop T n item op m)) := by
  intro a ha p
  have hs := hP a ha
  simp only [pThen]
  cases he : P a with
  | inl q => exact ⟨fun z => (by cases z; exact (hs _).1 he), fun b c z => by cases z⟩
  | inr q =>
    obtain ⟨b0, c0⟩ := q
    have h4 := (hs 0).2 b0 c0 he
    have h5 := pOK_loop (T := T) (op := op) hi ho m b0 c0 h4.1 p
    refine ⟨h5.1, fun b c' z => ?_⟩
    obtain ⟨h6, c2, h7, h8⟩ := h5.2 b c' z
    exact ⟨h6, by rw [h7, List.length_append]; omega⟩
theorem op_pos : (∀ x, 0 ≤ opT x → 0 ≤ x) ∧ (∀ x, 0 ≤ opS x → 0 ≤ x) ∧ (∀ x, 0 ≤ opA x → 0 ≤ x) ∧ ∀ x, 0 ≤ opO x → 0 ≤ x := by
  refine ⟨fun x h => ?_, fun x h => ?_, fun x h => ?_, fun x h => ?_⟩
  · unfold opT at h; split at h; · omega
    · split at h <;> omega
  · unfold opS at h; split at h; · omega
    · split at h <;> omega
  · unfold opA at h; split at h <;> omega
  · unfold opO at h; split at h <;> omega
theorem pOK_sum {T : Nat → Int} {n : Nat} {deep : Option jP} (hd : ∀ s, deep = some s → pOK n s) : pOK n (pTerm T n deep) ∧ pOK n (pSum T n deep) := by
  have h1 : pOK n (pTerm T n deep) := pOK_then (pOK_atom hd) (pOK_atom hd) op_pos.1 240
  exact ⟨h1, pOK_then h1 h1 op_pos.2.1 240⟩
theorem pOK_cmp {T : Nat → Int} {n : Nat} {deep : Option jP} (hd : ∀ s, deep = some s → pOK n s) (a : Nat) (c : List Int) (ha : a ≤ n) (p : Nat) : (pCmp T n deep a c = .inl p → p ≤ n) ∧ ∀ b c', pCmp T n deep a c = .inr (b, c') → b ≤ n ∧ ∃ c2, c' = c ++ c2 ∧ a + c2.length ≤ b := by
  unfold pCmp
  by_cases h1 : sidx 4 (sg T n a) < 0
  · rw [if_pos h1]; exact ⟨fun z => (by cases z; exact ha), fun b c z => by cases z⟩
  · rw [if_neg h1]
    have hl := sidx_lt (T := T) (n := n) (a := a) (i := 4) (by omega)
    have hs := (pOK_sum (T := T) hd).2 (nx T n a) (nx_le hl)
    have hg := nx_gt T n a
    simp only [pThen]
    cases he : pSum T n deep (nx T n a) with
    | inl q => exact ⟨fun z => (by cases z; exact (hs _).1 he), fun b c z => by cases z⟩
    | inr q =>
      obtain ⟨b0, c0⟩ := q
      have h4 := (hs 0).2 b0 c0 he
      refine ⟨fun z => (by cases z), fun b c' z => ?_⟩
      cases z
      exact ⟨h4.1, c0 ++ [9 + sidx 4 (sg T n a)], by simp, by simp only [List.length_append, List.length_cons, List.length_nil]; omega⟩
theorem pOK_unit {T : Nat → Int} {n : Nat} {ds du dc : Option jP} (hs : ∀ s, ds = some s → pOK n s) (hu : ∀ s, du = some s → pOK n s) (hc : ∀ s, dc = some s → pOK n s) : pOK n (pUnit T n ds du dc) := by
  intro a ha p
  unfold pUnit
  by_cases h1 : sg T n a = 33
  · rw [if_pos h1]
    have hl := sg_lt h1 (by decide)
    have hg := nx_gt T n a
    cases du with
    | none => exact ⟨fun z => (by cases z; exact ha), fun b c z => by cases z⟩
    | some u =>
      have h2 := hu u rfl (nx T n a) (nx_le hl)
      simp only [pThen]
      cases he : u (nx T n a) with
      | inl q => exact ⟨fun z => (by cases z; exact (h2 _).1 he), fun b c z => by cases z⟩
      | inr q =>
        obtain ⟨b0, c0⟩ := q
        have h4 := (h2 0).2 b0 c0 he
        refine ⟨fun z => (by cases z), fun b c' z => ?_⟩
        cases z
        exact ⟨h4.1, by simp only [List.length_append, List.length_cons, List.length_nil]; omega⟩
  · rw [if_neg h1]
    by_cases h3 : sg T n a = 40
    · rw [if_pos h3]
      have hl := sg_lt h3 (by decide)
      have hg := nx_gt T n a
      cases dc with
      | none => exact ⟨fun z => (by cases z; exact ha), fun b c z => by cases z⟩
      | some u =>
        have h2 := hc u rfl (nx T n a) (nx_le hl)
        simp only [pThen]
        cases he : u (nx T n a) with
        | inl q => exact ⟨fun z => (by cases z; exact (h2 _).1 he), fun b c z => by cases z⟩
        | inr q =>
          obtain ⟨b0, c0⟩ := q
          have h4 := (h2 0).2 b0 c0 he
          simp only [pExp]
          by_cases h5 : sg T n b0 = 41
          · rw [if_pos h5]
            have hl2 := sg_lt h5 (by decide)
            have := nx_gt T n b0
            refine ⟨fun z => (by cases z), fun b c z => ?_⟩
            cases z
            exact ⟨nx_le hl2, by omega⟩
          · rw [if_neg h5]
            exact ⟨fun z => (by cases z; exact h4.1), fun b c z => by cases z⟩
    · rw [if_neg h3]
      have h2 := (pOK_sum (T := T) hs).2 a ha
      simp only [pThen]
      cases he : pSum T n ds a with
      | inl q => exact ⟨fun z => (by cases z; exact (h2 _).1 he), fun b c z => by cases z⟩
      | inr q =>
        obtain ⟨b0, c0⟩ := q
        have h4 := (h2 0).2 b0 c0 he
        have h5 := pOK_cmp (T := T) hs b0 c0 h4.1 p
        refine ⟨h5.1, fun b c' z => ?_⟩
        obtain ⟨h6, c2, h7, h8⟩ := h5.2 b c' z
        exact ⟨h6, by rw [h7, List.length_append]; omega⟩
theorem pOK_cond {T : Nat → Int} {n : Nat} {ds du dc : Option jP} (hs : ∀ s, ds = some s → pOK n s) (hu : ∀ s, du = some s → pOK n s) (hc : ∀ s, dc = some s → pOK n s) : pOK n (pTruth T n ds du dc) ∧ pOK n (pCond T n ds du dc) := by
  have h0 := pOK_unit (T := T) hs hu hc
  have h1 : pOK n (pTruth T n ds du dc) := pOK_then h0 h0 op_pos.2.2.1 240
  exact ⟨h1, pOK_then h1 h1 op_pos.2.2.2 240⟩
theorem pOK_D (T : Nat → Int) (n : Nat) : ∀ r, (∀ s, (pD T n r).1 = some s → pOK n s) ∧ (∀ s, (pD T n r).2.1 = some s → pOK n s) ∧ ∀ s, (pD T n r).2.2 = some s → pOK n s
  | 0 => ⟨fun s h => (by cases h), fun s h => (by cases h), fun s h => (by cases h)⟩
  | r + 1 => by
    obtain ⟨h1, h2, h3⟩ := pOK_D T n r
    exact ⟨fun s h => (by cases h; exact (pOK_sum h1).2), fun s h => (by cases h; exact pOK_unit h1 h2 h3), fun s h => (by cases h; exact (pOK_cond h1 h2 h3).2)⟩
