/-! ===== 03 world: memories stand in the machine's heap ===== -/
/-- where things lie; which are made; the classes' numbers; the rows' classes; the first place that is ours -/
abbrev jB : Type := (Nat → Nat → Nat) × List (Nat × Nat) × va_G × (Nat → ClassId) × Nat
def vr (al : Nat → Nat → Nat) (v : jV) : Value := match v with
  | .inl x => .int (Int32.ofInt x)
  | .inr (.inl x) => .long (Int64.ofInt x)
  | .inr (.inr (_, none)) => .null
  | .inr (.inr (k, some j)) => .ref (al k j)
theorem vr_cat (al : Nat → Nat → Nat) (v : jV) : (vr al v).category = jcat v := by
  rcases v with x | x | ⟨k, _ | j⟩ <;> rfl
def okM (D : List (Nat × Nat)) (σ : jM) : Prop := (∀ k j o, inR (σ.1 k j o)) ∧ (∀ k j o, inL (σ.2.1 k j o)) ∧ ∀ k j o i, σ.2.2 k j o = some i → okr D (tkd k o) i
/-- what a field holds -/
def fv (al : Nat → Nat → Nat) (σ : jM) (k j o : Nat) : Value := match ftc k o with
  | 2 => .long (Int64.ofInt (σ.2.1 k j o))
  | 3 => va_rf ((σ.2.2 k j o).map (al (tkd k o)))
  | 4 => .ref (al (tkd k o) (sti k o j))
  | _ => .int (Int32.ofInt (σ.1 k j o))
/-- what a row holds -/
def ev_ (al : Nat → Nat → Nat) (σ : jM) (k j : Nat) : (Nat → Int32) ⊕ (Nat → Int64) ⊕ (Nat → UInt32) ⊕ (Nat → UInt64) ⊕ (Nat → Option Nat) := match eTc k with
  | 2 => .inr (.inl (fun o => Int64.ofInt (σ.2.1 k j o)))
  | 3 => .inr (.inr (.inr (.inr (fun o => (σ.2.2 k j o).map (al (tkd k o))))))
  | 4 => .inr (.inr (.inr (.inr (fun o => some (al (tkd k o) (sti k o j))))))
  | _ => .inl (fun o => Int32.ofInt (σ.1 k j o))
def cel (B : jB) (σ : jM) (k j : Nat) : va_E := if k < 11 then .inr (k, (List.range (jn k)).map (fv B.1 σ k j)) else .inl (B.2.2.2.1 (eCl k), jln k j, ev_ B.1 σ k j)
def wld (B : jB) (σ : jM) : va_W := B.2.1.map (fun q => (B.1 q.1 q.2, cel B σ q.1 q.2))
def sysA (B : jB) : Nat → Prop := fun q => B.2.2.2.2 ≤ q
def Rp (B : jB) (σ : jM) (H : Heap) : Prop := va_P B.2.2.1 jcl (wld B σ) H ∧ va_D (sysA B) (wld B σ)
def jtys (B : jB) : List (ClassId × FieldType) := (List.range 6).map (fun c => (B.2.2.2.1 c, eTy c))
/-- what things point to is there -/
def clo (B : jB) : Prop := ∀ k j, (k, j) ∈ B.2.1 → (k < 11 ∧ ∀ o, ftc k o = 4 → okr B.2.1 (tkd k o) (sti k o j)) ∨ (11 ≤ k ∧ k < 90 ∧ eCl k < 6 ∧ (eTc k = 4 → ∀ o, o < jln k j → okr B.2.1 (tkd k o) (sti k o j)))
theorem wld_at {B : jB} {σ : jM} {k j : Nat} (h : (k, j) ∈ B.2.1) : ∃ q0 : Nat, (wld B σ)[q0]? = some (B.1 k j, cel B σ k j) ∧ B.2.1[q0]? = some (k, j) := by
  obtain ⟨i, hi⟩ := List.getElem?_of_mem h
  exact ⟨i, by simp [wld, hi], hi⟩
theorem cel_o {B : jB} {σ : jM} {k j : Nat} (h : k < 11) : cel B σ k j = .inr (k, (List.range (jn k)).map (fv B.1 σ k j)) := by simp [cel, h]
theorem cel_a {B : jB} {σ : jM} {k j : Nat} (h : ¬ k < 11) : cel B σ k j = .inl (B.2.2.2.1 (eCl k), jln k j, ev_ B.1 σ k j) := by simp [cel, h]
theorem wld_nd {B : jB} {σ : jM} {A : Nat → Prop} (h : va_D A (wld B σ)) {i j : Nat} {q : Nat × Nat} (hi : B.2.1[i]? = some q) (hj : B.2.1[j]? = some q) : i = j :=
  h.1 i j (B.1 q.1 q.2, cel B σ q.1 q.2) (B.1 q.1 q.2, cel B σ q.1 q.2) (by simp [wld, hi]) (by simp [wld, hj]) rfl
/-- one cell changed -/
theorem wld_set {B : jB} {σ τ : jM} {A : Nat → Prop} {k j q0 : Nat} (hD : va_D A (wld B σ)) (hq : B.2.1[q0]? = some (k, j)) (h : ∀ k' j', (k', j') ≠ (k, j) → cel B τ k' j' = cel B σ k' j') : (wld B σ).set q0 (B.1 k j, cel B τ k j) = wld B τ := by
  apply List.ext_getElem?
  intro i
  by_cases hi : i = q0
  · subst hi
    have hl : i < (wld B σ).length := by simp [wld, (List.getElem?_eq_some_iff.mp hq).1]
    rw [List.getElem?_set_self hl]
    simp [wld, hq]
  · rw [List.getElem?_set_ne (Ne.symm hi)]
    simp only [wld, List.getElem?_map]
    cases hc : B.2.1[i]? with
    | none => rfl
    | some q =>
      obtain ⟨k', j'⟩ := q
      have hne : (k', j') ≠ (k, j) := fun e => hi (wld_nd hD (by rw [hc]) (by rw [hq, e]))
      simp [h k' j' hne]
theorem fs_at {n o : Nat} {f : Nat → Value} (h : o < n) : ((List.range n).map f)[o]? = some (f o) := by simp [h]
theorem fs_set {n o : Nat} {f g : Nat → Value} {v : Value} (h : o < n) (hv : g o = v) (hg : ∀ i, i ≠ o → g i = f i) : ((List.range n).map f).set o v = (List.range n).map g := by
  apply List.ext_getElem?
  intro i
  by_cases hi : i = o
  · subst hi
    rw [List.getElem?_set_self (by simpa using h)]
    simp [h, hv]
  · rw [List.getElem?_set_ne (Ne.symm hi)]
    by_cases hl : i < n
    · simp [hl, hg i hi]
    · simp [hl]
theorem cel_sI {B : jB} {σ : jM} {k j o k' j' : Nat} {v : Int} (h : (k', j') ≠ (k, j)) : cel B (sI σ k j o v) k' j' = cel B σ k' j' := by
  have hn : ∀ o', ¬ (k' = k ∧ j' = j ∧ o' = o) := fun o' e => h (by rw [e.1, e.2.1])
  have e1 : fv B.1 (sI σ k j o v) k' j' = fv B.1 σ k' j' := by funext o'; simp [fv, sI, hn o']
  have e2 : ev_ B.1 (sI σ k j o v) k' j' = ev_ B.1 σ k' j' := by simp [ev_, sI, hn]
  simp [cel, e1, e2]
theorem cel_sL {B : jB} {σ : jM} {k j o k' j' : Nat} {v : Int} (h : (k', j') ≠ (k, j)) : cel B (sL σ k j o v) k' j' = cel B σ k' j' := by
  have hn : ∀ o', ¬ (k' = k ∧ j' = j ∧ o' = o) := fun o' e => h (by rw [e.1, e.2.1])
  have e1 : fv B.1 (sL σ k j o v) k' j' = fv B.1 σ k' j' := by funext o'; simp [fv, sL, hn o']
  have e2 : ev_ B.1 (sL σ k j o v) k' j' = ev_ B.1 σ k' j' := by simp [ev_, sL, hn]
  simp [cel, e1, e2]
theorem cel_sR {B : jB} {σ : jM} {k j o k' j' : Nat} {v : Option Nat} (h : (k', j') ≠ (k, j)) : cel B (sR σ k j o v) k' j' = cel B σ k' j' := by
  have hn : ∀ o', ¬ (k' = k ∧ j' = j ∧ o' = o) := fun o' e => h (by rw [e.1, e.2.1])
  have e1 : fv B.1 (sR σ k j o v) k' j' = fv B.1 σ k' j' := by funext o'; simp [fv, sR, hn o']
  have e2 : ev_ B.1 (sR σ k j o v) k' j' = ev_ B.1 σ k' j' := by simp [ev_, sR, hn]
  simp [cel, e1, e2]
theorem cel_sA {B : jB} {σ : jM} {k j k' j' : Nat} {f : Nat → Int} (h : (k', j') ≠ (k, j)) : cel B (sA σ k j f) k' j' = cel B σ k' j' := by
  have hn : ¬ (k' = k ∧ j' = j) := fun e => h (by rw [e.1, e.2])
  have e1 : fv B.1 (sA σ k j f) k' j' = fv B.1 σ k' j' := by funext o'; simp [fv, sA, hn]
  have e2 : ev_ B.1 (sA σ k j f) k' j' = ev_ B.1 σ k' j' := by simp [ev_, sA, hn]
  simp [cel, e1, e2]
theorem okM_sI {D : List (Nat × Nat)} {σ : jM} {k j o : Nat} {v : Int} (h : okM D σ) (hv : inR v) : okM D (sI σ k j o v) := by
  refine ⟨fun k' j' o' => ?_, h.2.1, h.2.2⟩
  show inR (if k' = k ∧ j' = j ∧ o' = o then v else σ.1 k' j' o')
  split
  · exact hv
  · exact h.1 k' j' o'
theorem okM_sL {D : List (Nat × Nat)} {σ : jM} {k j o : Nat} {v : Int} (h : okM D σ) (hv : inL v) : okM D (sL σ k j o v) := by
  refine ⟨h.1, fun k' j' o' => ?_, h.2.2⟩
  show inL (if k' = k ∧ j' = j ∧ o' = o then v else σ.2.1 k' j' o')
  split
  · exact hv
  · exact h.2.1 k' j' o'
theorem okM_sR {D : List (Nat × Nat)} {σ : jM} {k j o : Nat} {v : Option Nat} (h : okM D σ) (hv : ∀ i, v = some i → okr D (tkd k o) i) : okM D (sR σ k j o v) := by
  refine ⟨h.1, h.2.1, fun k' j' o' i hi => ?_⟩
  have hi : (if k' = k ∧ j' = j ∧ o' = o then v else σ.2.2 k' j' o') = some i := hi
  split at hi
  · rename_i e
    rw [e.1, e.2.2]
    exact hv i hi
  · exact h.2.2 k' j' o' i hi
theorem okM_sA {D : List (Nat × Nat)} {σ : jM} {k j : Nat} {f : Nat → Int} (h : okM D σ) (hv : ∀ o, inR (f o)) : okM D (sA σ k j f) := by
  refine ⟨fun k' j' o' => ?_, h.2.1, h.2.2⟩
  show inR (if k' = k ∧ j' = j then f o' else σ.1 k' j' o')
  split
  · exact hv o'
  · exact h.1 k' j' o'
-- the locals
def lmp (al : Nat → Nat → Nat) : Nat → jL → List (Nat × Value)
  | _, [] => []
  | n, none :: t => lmp al (n + 1) t
  | n, some v :: t => (n, vr al v) :: lmp al (n + 1) t
theorem lmp_ge {al : Nat → Nat → Nat} : ∀ (ls : jL) (n : Nat) (q : Nat × Value), q ∈ lmp al n ls → n ≤ q.1
  | [], n, q, h => by cases h
  | none :: t, n, q, h => Nat.le_of_succ_le (lmp_ge t (n + 1) q h)
  | some v :: t, n, q, h => by
    rcases List.mem_cons.mp h with rfl | h2
    · exact Nat.le_refl n
    · exact Nat.le_of_succ_le (lmp_ge t (n + 1) q h2)
theorem lmp_get {al : Nat → Nat → Nat} : ∀ (ls : jL) (n i : Nat) (v : jV), lget ls i = some v → (n + i, vr al v) ∈ lmp al n ls
  | [], n, i, v, h => by simp [lget] at h
  | none :: t, n, 0, v, h => by simp [lget] at h
  | some w :: t, n, 0, v, h => by simp [lget] at h; subst h; exact List.mem_cons_self
  | none :: t, n, i + 1, v, h => by
    have := lmp_get (al := al) t (n + 1) i v (by simpa [lget] using h)
    rw [show n + 1 + i = n + (i + 1) by omega] at this
    exact this
  | some w :: t, n, i + 1, v, h => by
    have := lmp_get (al := al) t (n + 1) i v (by simpa [lget] using h)
    rw [show n + 1 + i = n + (i + 1) by omega] at this
    exact List.mem_cons_of_mem _ this
theorem lmp_put {al : Nat → Nat → Nat} : ∀ (ls : jL) (n i : Nat) (v : jV) (q : Nat × Value), q ∈ lmp al n (lput ls i v) → q = (n + i, vr al v) ∨ (q ∈ lmp al n ls ∧ q.1 ≠ n + i ∧ ¬ (q.1 + 1 = n + i ∧ q.2.category = 2))
  | [], n, i, v, q, h => by simp [lput, lmp] at h
  | o :: t, n, 0, v, q, h => by
    have h : q ∈ (n, vr al v) :: lmp al (n + 1) t := h
    rcases List.mem_cons.mp h with rfl | h2
    · exact Or.inl rfl
    · have := lmp_ge t (n + 1) q h2
      refine Or.inr ⟨?_, by omega, by omega⟩
      cases o with
      | none => exact h2
      | some w => exact List.mem_cons_of_mem _ h2
  | o :: t, n, 1, v, q, h => by
    have key : ∀ q, q ∈ lmp al (n + 1) (lput t 0 v) → q = (n + 1, vr al v) ∨ (q ∈ lmp al (n + 1) t ∧ q.1 ≠ n + 1 ∧ ¬ (q.1 + 1 = n + 1 ∧ q.2.category = 2)) := fun q hq => lmp_put t (n + 1) 0 v q hq
    have tl : ∀ q, q ∈ lmp al (n + 1) (lput t 0 v) → q = (n + 1, vr al v) ∨ (q ∈ lmp al n (o :: t) ∧ q.1 ≠ n + 1 ∧ ¬ (q.1 + 1 = n + 1 ∧ q.2.category = 2)) := fun q hq => by
      rcases key q hq with h | ⟨h1, h2⟩
      · exact Or.inl h
      · refine Or.inr ⟨?_, h2⟩
        cases o with
        | none => exact h1
        | some w => exact List.mem_cons_of_mem _ h1
    match o, h, tl with
    | none, h, tl => exact tl q h
    | some (.inl x), h, tl =>
      rcases List.mem_cons.mp (show q ∈ (n, vr al (.inl x)) :: lmp al (n + 1) (lput t 0 v) from h) with rfl | h2
      · exact Or.inr ⟨List.mem_cons_self, by simp, fun e => absurd (show (1 : Nat) = 2 from e.2) (by decide)⟩
      · exact tl q h2
    | some (.inr (.inl x)), h, tl => exact tl q h
    | some (.inr (.inr r)), h, tl =>
      rcases List.mem_cons.mp (show q ∈ (n, vr al (.inr (.inr r))) :: lmp al (n + 1) (lput t 0 v) from h) with rfl | h2
      · refine Or.inr ⟨List.mem_cons_self, by simp, fun e => ?_⟩
        have := e.2
        rw [vr_cat] at this
        exact absurd (show (1 : Nat) = 2 from this) (by decide)
      · exact tl q h2
  | o :: t, n, i + 2, v, q, h => by
    have tl : ∀ q, q ∈ lmp al (n + 1) (lput t (i + 1) v) → q = (n + (i + 2), vr al v) ∨ (q ∈ lmp al (n + 1) t ∧ q.1 ≠ n + (i + 2) ∧ ¬ (q.1 + 1 = n + (i + 2) ∧ q.2.category = 2)) := fun q hq => by
      have := lmp_put t (n + 1) (i + 1) v q hq
      rw [show n + 1 + (i + 1) = n + (i + 2) by omega] at this
      exact this
    cases o with
    | none => exact tl q h
    | some w =>
      rcases List.mem_cons.mp (show q ∈ (n, vr al w) :: lmp al (n + 1) (lput t (i + 1) v) from h) with rfl | h2
      · exact Or.inr ⟨List.mem_cons_self, by simp, fun e => by have := e.1; simp at this⟩
      · rcases tl q h2 with h | ⟨h1, h2⟩
        · exact Or.inl h
        · exact Or.inr ⟨List.mem_cons_of_mem _ h1, h2⟩
theorem lmp_kill {al : Nat → Nat → Nat} : ∀ (ls : jL) (n i : Nat) (q : Nat × Value), q ∈ lmp al n (lkill ls i) → q ∈ lmp al n ls ∧ q.1 ≠ n + i
  | [], n, i, q, h => by simp [lkill, lmp] at h
  | o :: t, n, 0, q, h => by
    have h : q ∈ lmp al (n + 1) t := h
    have := lmp_ge t (n + 1) q h
    refine ⟨?_, by omega⟩
    cases o with
    | none => exact h
    | some w => exact List.mem_cons_of_mem _ h
  | o :: t, n, i + 1, q, h => by
    have tl : ∀ q, q ∈ lmp al (n + 1) (lkill t i) → q ∈ lmp al (n + 1) t ∧ q.1 ≠ n + (i + 1) := fun q hq => by
      have := lmp_kill t (n + 1) i q hq
      rw [show n + 1 + i = n + (i + 1) by omega] at this
      exact this
    cases o with
    | none => exact tl q h
    | some w =>
      rcases List.mem_cons.mp (show q ∈ (n, vr al w) :: lmp al (n + 1) (lkill t i) from h) with rfl | h2
      · exact ⟨List.mem_cons_self, by simp⟩
      · exact ⟨List.mem_cons_of_mem _ (tl q h2).1, (tl q h2).2⟩
theorem lv_less {ls : Array Slot} {nL : Nat} {l l' : List (Nat × Value)} (h : lv_has ls nL l) (hs : ∀ q ∈ l', q ∈ l) : lv_has ls nL l' := ⟨h.1, h.2.1, fun q hq => h.2.2 q (hs q hq)⟩
theorem okl_put {D : List (Nat × Nat)} : ∀ (ls : jL) (i : Nat) (v : jV), okl D ls → okv D v → okl D (lput ls i v)
  | [], i, v, h, hv => by simpa [lput] using h
  | o :: t, 0, v, h, hv => by
    intro o' ho' w hw
    rcases List.mem_cons.mp (show o' ∈ some v :: t from ho') with rfl | h2
    · cases hw; exact hv
    · exact h o' (List.mem_cons_of_mem _ h2) w hw
  | o :: t, 1, v, h, hv => by
    intro o' ho' w hw
    have ht := okl_put t 0 v (fun o h1 => h o (List.mem_cons_of_mem _ h1)) hv
    simp only [lput] at ho'
    rcases List.mem_cons.mp ho' with e | h2
    · refine h o List.mem_cons_self w ?_
      rw [← hw, e]
      split
      · rw [e] at hw; simp at hw
      · rfl
    · exact ht o' h2 w hw
  | o :: t, i + 2, v, h, hv => by
    intro o' ho' w hw
    have ht := okl_put t (i + 1) v (fun o h1 => h o (List.mem_cons_of_mem _ h1)) hv
    rcases List.mem_cons.mp (show o' ∈ o :: lput t (i + 1) v from ho') with rfl | h2
    · exact h o' List.mem_cons_self w hw
    · exact ht o' h2 w hw
theorem okl_kill {D : List (Nat × Nat)} : ∀ (ls : jL) (i : Nat), okl D ls → okl D (lkill ls i)
  | [], i, h => by simpa [lkill] using h
  | o :: t, 0, h => by
    intro o' ho' w hw
    rcases List.mem_cons.mp (show o' ∈ none :: t from ho') with rfl | h2
    · cases hw
    · exact h o' (List.mem_cons_of_mem _ h2) w hw
  | o :: t, i + 1, h => by
    intro o' ho' w hw
    have ht := okl_kill t i (fun o h1 => h o (List.mem_cons_of_mem _ h1))
    rcases List.mem_cons.mp (show o' ∈ o :: lkill t i from ho') with rfl | h2
    · exact h o' List.mem_cons_self w hw
    · exact ht o' h2 w hw
theorem okl_get {D : List (Nat × Nat)} : ∀ (ls : jL) (i : Nat) (v : jV), okl D ls → lget ls i = some v → okv D v
  | [], i, v, h, hv => by simp [lget] at hv
  | o :: t, 0, v, h, hv => h o List.mem_cons_self v (by simpa [lget] using hv)
  | o :: t, i + 1, v, h, hv => okl_get t i v (fun o h1 => h o (List.mem_cons_of_mem _ h1)) (by simpa [lget] using hv)
