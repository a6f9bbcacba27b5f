/-! ===== 9f whom to read: guesses go side by side; counting ===== -/
def sh2 (δ a b : Int) : Prop := (a = -1 ∧ b = -1) ∨ (a ≠ -1 ∧ b ≠ -1 ∧ b = a + δ)
def shX (δ : Int) (x y : fX) : Prop := (∀ w, sh2 δ (x.1 w) (y.1 w)) ∧ ∀ f, sh2 (-δ) (x.2 f) (y.2 f)
theorem shX_b {δ : Int} {x y : fX} {w : Nat} {a b : Int} (h : shX δ x y) (hs : sh2 δ a b) : shX δ (up x.1 w a, x.2) (up y.1 w b, y.2) := by
  refine ⟨fun w' => ?_, h.2⟩
  simp only [up_at]
  split
  · exact hs
  · exact h.1 w'
theorem shX_t {δ : Int} {x y : fX} {w : Nat} {a b : Int} (h : shX δ x y) (hs : sh2 (-δ) a b) : shX δ (x.1, up x.2 w a) (y.1, up y.2 w b) := by
  refine ⟨h.1, fun w' => ?_⟩
  simp only [up_at]
  split
  · exact hs
  · exact h.2 w'
theorem fl1_cs (q : jN) (x : fX × Bool) : (x.1.1 q.1 ≠ -1 ∧ x.1.2 q.2.1 = -1 ∧ fl1 q x = if agr (x.1.1 q.1) (q.2.2 - x.1.1 q.1) q.2.2 then some ((x.1.1, up x.1.2 q.2.1 (q.2.2 - x.1.1 q.1)), true) else none) ∨ (x.1.1 q.1 = -1 ∧ x.1.2 q.2.1 ≠ -1 ∧ fl1 q x = if agr (q.2.2 - x.1.2 q.2.1) (x.1.2 q.2.1) q.2.2 then some ((up x.1.1 q.1 (q.2.2 - x.1.2 q.2.1), x.1.2), true) else none) ∨ (x.1.1 q.1 = -1 ∧ x.1.2 q.2.1 = -1 ∧ fl1 q x = some x) ∨ (x.1.1 q.1 ≠ -1 ∧ x.1.2 q.2.1 ≠ -1 ∧ fl1 q x = if agr (x.1.1 q.1) (x.1.2 q.2.1) q.2.2 then some x else none) := by
  unfold fl1
  by_cases z1 : x.1.1 q.1 = -1
  · by_cases z2 : x.1.2 q.2.1 = -1
    · exact Or.inr (Or.inr (Or.inl ⟨z1, z2, by rw [if_neg (by omega), if_neg (by omega), if_pos ⟨z1, z2⟩]⟩))
    · exact Or.inr (Or.inl ⟨z1, z2, by rw [if_neg (by omega), if_pos ⟨z1, z2⟩]⟩)
  · by_cases z2 : x.1.2 q.2.1 = -1
    · exact Or.inl ⟨z1, z2, by rw [if_pos ⟨z1, z2⟩]⟩
    · exact Or.inr (Or.inr (Or.inr ⟨z1, z2, by rw [if_neg (by omega), if_neg (by omega), if_neg (by omega)]⟩))
theorem fl1_sh {δ : Int} {q : jN} {x x' y y' : fX × Bool} (hs : shX δ x.1 x'.1) (h2 : x.2 = x'.2) (h : fl1 q x = some y) (h' : fl1 q x' = some y') : shX δ y.1 y'.1 ∧ y.2 = y'.2 := by
  have s1 := hs.1 q.1
  have s2 := hs.2 q.2.1
  unfold sh2 at s1 s2
  rcases fl1_cs q x with ⟨a1, a2, e⟩ | ⟨a1, a2, e⟩ | ⟨a1, a2, e⟩ | ⟨a1, a2, e⟩
  · rcases fl1_cs q x' with ⟨b1, b2, e'⟩ | ⟨b1, b2, e'⟩ | ⟨b1, b2, e'⟩ | ⟨b1, b2, e'⟩ <;> first | omega | skip
    rw [h] at e
    rw [h'] at e'
    split at e
    · split at e'
      · cases e
        cases e'
        exact ⟨shX_t hs (by unfold sh2; omega), rfl⟩
      · cases e'
    · cases e
  · rcases fl1_cs q x' with ⟨b1, b2, e'⟩ | ⟨b1, b2, e'⟩ | ⟨b1, b2, e'⟩ | ⟨b1, b2, e'⟩ <;> first | omega | skip
    rw [h] at e
    rw [h'] at e'
    split at e
    · split at e'
      · cases e
        cases e'
        exact ⟨shX_b hs (by unfold sh2; omega), rfl⟩
      · cases e'
    · cases e
  · rcases fl1_cs q x' with ⟨b1, b2, e'⟩ | ⟨b1, b2, e'⟩ | ⟨b1, b2, e'⟩ | ⟨b1, b2, e'⟩ <;> first | omega | skip
    rw [h] at e
    rw [h'] at e'
    cases e
    cases e'
    exact ⟨hs, h2⟩
  · rcases fl1_cs q x' with ⟨b1, b2, e'⟩ | ⟨b1, b2, e'⟩ | ⟨b1, b2, e'⟩ | ⟨b1, b2, e'⟩ <;> first | omega | skip
    rw [h] at e
    rw [h'] at e'
    split at e
    · split at e'
      · cases e
        cases e'
        exact ⟨hs, h2⟩
      · cases e'
    · cases e
theorem flP_sh {δ : Int} : ∀ (l : List jN) (x x' y y' : fX × Bool), shX δ x.1 x'.1 → x.2 = x'.2 → flP l x = some y → flP l x' = some y' → shX δ y.1 y'.1 ∧ y.2 = y'.2
  | [], x, x', y, y', hs, h2, h, h' => by cases h; cases h'; exact ⟨hs, h2⟩
  | q :: l, x, x', y, y', hs, h2, h, h' => by
    unfold flP at h h'
    split at h
    · cases h
    · rename_i z hz
      split at h'
      · cases h'
      · rename_i z' hz'
        obtain ⟨s, e⟩ := fl1_sh hs h2 hz hz'
        exact flP_sh l z z' y y' s e h h'
theorem flR_sh {δ : Int} {l : List jN} : ∀ (m : Nat) (x x' y y' : fX), shX δ x x' → flR l m x = some y → flR l m x' = some y' → shX δ y y'
  | 0, x, x', y, y', hs, h, h' => by cases h; cases h'; exact hs
  | m + 1, x, x', y, y', hs, h, h' => by
    unfold flR at h h'
    split at h
    · cases h
    · rename_i z hz
      split at h'
      · cases h'
      · rename_i z' hz'
        obtain ⟨s, e⟩ := flP_sh l (x, false) (x', false) z z' hs rfl hz hz'
        split at h
        · rename_i c
          rw [if_pos (by rw [← e]; exact c)] at h'
          exact flR_sh m z.1 z'.1 y y' s h h'
        · rename_i c
          rw [if_neg (by rw [← e]; exact c)] at h'
          cases h
          cases h'
          exact s
theorem fol_sh {l : List jN} {k : Nat} {g g' : Int} {y y' : fX} (hg : 0 ≤ g) (hg' : 0 ≤ g') (h : fol l k g = some y) (h' : fol l k g' = some y') : shX (g' - g) y y' := by
  refine flR_sh 13 _ _ y y' ⟨fun w => ?_, fun f => Or.inl ⟨rfl, rfl⟩⟩ h h'
  simp only [up_at]
  split
  · exact Or.inr ⟨by omega, by omega, by omega⟩
  · exact Or.inl ⟨rfl, rfl⟩
-- what is apart stays apart
def outX (x : fX) (A B : Nat → Prop) : Prop := (∀ w, A w → x.1 w = -1) ∧ ∀ f, B f → x.2 f = -1
theorem fl1_out {q : jN} {x y : fX × Bool} {A B : Nat → Prop} (hq : A q.1 ↔ B q.2.1) (ho : outX x.1 A B) (h : fl1 q x = some y) : outX y.1 A B := by
  rcases fl1_cs q x with ⟨a1, a2, e⟩ | ⟨a1, a2, e⟩ | ⟨a1, a2, e⟩ | ⟨a1, a2, e⟩
  · rw [h] at e
    split at e
    · cases e
      refine ⟨ho.1, fun f hf => ?_⟩
      simp only [up_at]
      split
      · rename_i ef
        rw [ef] at hf
        exact absurd (ho.1 _ (hq.mpr hf)) a1
      · exact ho.2 f hf
    · cases e
  · rw [h] at e
    split at e
    · cases e
      refine ⟨fun w hw => ?_, ho.2⟩
      simp only [up_at]
      split
      · rename_i ef
        rw [ef] at hw
        exact absurd (ho.2 _ (hq.mp hw)) a2
      · exact ho.1 w hw
    · cases e
  · rw [h] at e
    cases e
    exact ho
  · rw [h] at e
    split at e
    · cases e
      exact ho
    · cases e
theorem flP_out {A B : Nat → Prop} : ∀ (l : List jN) (x y : fX × Bool), (∀ q ∈ l, A q.1 ↔ B q.2.1) → outX x.1 A B → flP l x = some y → outX y.1 A B
  | [], x, y, _, ho, h => by cases h; exact ho
  | q :: l, x, y, hq, ho, h => by
    unfold flP at h
    split at h
    · cases h
    · rename_i z hz
      exact flP_out l z y (fun p hp => hq p (List.mem_cons_of_mem _ hp)) (fl1_out (hq q List.mem_cons_self) ho hz) h
theorem flR_out {A B : Nat → Prop} {l : List jN} (hq : ∀ q ∈ l, A q.1 ↔ B q.2.1) : ∀ (m : Nat) (x y : fX), outX x A B → flR l m x = some y → outX y A B
  | 0, x, y, ho, h => by cases h; exact ho
  | m + 1, x, y, ho, h => by
    unfold flR at h
    split at h
    · cases h
    · rename_i z hz
      have := flP_out l (x, false) z hq ho hz
      split at h
      · exact flR_out hq m z.1 y this h
      · cases h; exact this
theorem fol_out {A B : Nat → Prop} {l : List jN} (hq : ∀ q ∈ l, A q.1 ↔ B q.2.1) {k : Nat} {g : Int} {y : fX} (hk : ¬ A k) (h : fol l k g = some y) : outX y A B := by
  refine flR_out hq 13 _ y ⟨fun w hw => ?_, fun f _ => rfl⟩ h
  simp only [up_at]
  rw [if_neg (fun e => hk (by rw [← e]; exact hw))]
theorem ClX.iff {l : List jN} {x : fX} (h : ClX l x) : ∀ q ∈ l, x.1 q.1 ≠ -1 ↔ x.2 q.2.1 ≠ -1 := by
  intro q hq
  rcases h q hq with e | e <;> omega
/-- who is bound to whom is mutual -/
theorem fol_sym {l : List jN} (hl : NOK l) {w k : Nat} (hw : w < 4) (hk : k < 4) {g h : Int} (hg : 0 ≤ g ∧ g ≤ 9) (hh : 0 ≤ h ∧ h ≤ 9) {x z : fX} (hx : fol l w g = some x) (hz : fol l k h = some z) (hb : x.1 k ≠ -1) : z.1 w ≠ -1 := by
  obtain ⟨e, c, -⟩ := fol_st hl hk hh hz
  intro hn
  have := (fol_out (A := fun w => z.1 w ≠ -1) (B := fun f => z.2 f ≠ -1) c.iff (fun q => q hn) hx).1 k (show z.1 k ≠ -1 by rw [e]; omega)
  exact hb this
/-- another guess in place of one -/
theorem mv_ag {l : List jN} {b t : Nat → Int} {x y : fX} {δ : Int} (ha : AgA l b t) (hx : ClX l x) (hy : ClX l y) (hs : shX δ x y) : AgA l (fun w => if x.1 w = -1 then b w else y.1 w) (fun f => if x.2 f = -1 then t f else y.2 f) := by
  intro q hq
  have s1 := hs.1 q.1
  have s2 := hs.2 q.2.1
  unfold sh2 at s1 s2
  simp only
  rcases hx q hq with e | e
  · rw [if_pos e.1, if_pos e.2]; exact ha q hq
  · rw [if_neg (by omega), if_neg (by omega)]
    rcases hy q hq with e2 | e2
    · omega
    · exact e2
theorem dig_inj {K c c' : Nat} (hK : K ≤ 4) (hc : c < 10 ^ K) (hc' : c' < 10 ^ K) (h : ∀ w, w < K → dg c w = dg c' w) : c = c' := by
  rcases (show K = 0 ∨ K = 1 ∨ K = 2 ∨ K = 3 ∨ K = 4 by omega) with rfl | rfl | rfl | rfl | rfl
  · omega
  · have h0 := h 0 (by decide)
    unfold dg dgN at h0
    omega
  · have h0 := h 0 (by decide)
    have h1 := h 1 (by decide)
    unfold dg dgN at h0 h1
    omega
  · have h0 := h 0 (by decide)
    have h1 := h 1 (by decide)
    have h2 := h 2 (by decide)
    unfold dg dgN at h0 h1 h2
    omega
  · have h0 := h 0 (by decide)
    have h1 := h 1 (by decide)
    have h2 := h 2 (by decide)
    have h3 := h 3 (by decide)
    unfold dg dgN at h0 h1 h2 h3
    omega
-- sums and counts
def sumN (h : Nat → Nat) : Nat → Nat
  | 0 => 0
  | n + 1 => sumN h n + h n
noncomputable def ind (Q : Prop) : Nat := @ite Nat Q (Classical.propDecidable Q) 1 0
theorem ind_1 {Q : Prop} (h : Q) : ind Q = 1 := by unfold ind; exact if_pos h
theorem ind_0 {Q : Prop} (h : ¬ Q) : ind Q = 0 := by unfold ind; exact if_neg h
theorem ind_c {Q R : Prop} (h : Q ↔ R) : ind Q = ind R := by
  by_cases z : Q
  · rw [ind_1 z, ind_1 (h.mp z)]
  · rw [ind_0 z, ind_0 (fun r => z (h.mpr r))]
theorem ind_and (Q R : Prop) : ind (Q ∧ R) = ind Q * ind R := by
  by_cases z : Q
  · by_cases y : R
    · rw [ind_1 z, ind_1 y, ind_1 ⟨z, y⟩]
    · rw [ind_0 y, ind_0 (fun q => y q.2)]
      omega
  · rw [ind_0 z, ind_0 (fun q => z q.1)]
    omega
theorem sumN_c {u v : Nat → Nat} : ∀ n, (∀ i, i < n → u i = v i) → sumN u n = sumN v n
  | 0, _ => rfl
  | n + 1, h => by unfold sumN; rw [sumN_c n (fun i hi => h i (by omega)), h n (by omega)]
theorem sumN_0 {u : Nat → Nat} (n : Nat) (h : ∀ i, i < n → u i = 0) : sumN u n = 0 := by
  induction n with
  | zero => rfl
  | succ n ih => unfold sumN; rw [ih (fun i hi => h i (by omega)), h n (by omega)]
theorem sumN_add (u v : Nat → Nat) : ∀ n, sumN (fun i => u i + v i) n = sumN u n + sumN v n
  | 0 => rfl
  | n + 1 => by unfold sumN; rw [sumN_add u v n]; omega
theorem sumN_mul (u : Nat → Nat) (a : Nat) : ∀ n, sumN (fun i => u i * a) n = sumN u n * a
  | 0 => by unfold sumN; omega
  | n + 1 => by unfold sumN; rw [sumN_mul u a n, Nat.add_mul]
theorem sumN_sw (u : Nat → Nat → Nat) (m : Nat) : ∀ n, sumN (fun i => sumN (u i) m) n = sumN (fun j => sumN (fun i => u i j) n) m
  | 0 => by
    exact (sumN_0 m (fun i _ => rfl)).symm
  | n + 1 => by
    show sumN (fun i => sumN (u i) m) n + sumN (u n) m = sumN (fun j => sumN (fun i => u i j) n + u n j) m
    rw [sumN_sw u m n, sumN_add]
theorem sumN_one {u : Nat → Nat} {p : Nat} : ∀ n, p < n → (∀ i, i < n → i ≠ p → u i = 0) → sumN u n = u p
  | 0, h, _ => absurd h (by omega)
  | n + 1, h, h0 => by
    unfold sumN
    by_cases z : p = n
    · subst z
      rw [sumN_0 p (fun i hi => h0 i (by omega) (by omega))]
      omega
    · rw [sumN_one n (by omega) (fun i hi hp => h0 i (by omega) hp), h0 n (by omega) (by omega)]
      omega
theorem rem_1 {R : Nat → Prop} {p : Nat} (hR : R p) : ∀ M, p < M → sumN (fun c => ind (R c ∧ c ≠ p)) M + 1 = sumN (fun c => ind (R c)) M
  | 0, h => absurd h (by omega)
  | M + 1, h => by
    unfold sumN
    by_cases z : p = M
    · subst z
      rw [ind_1 hR, ind_0 (fun q => q.2 rfl), sumN_c p (fun i hi => ind_c (Q := R i ∧ i ≠ p) (R := R i) ⟨fun q => q.1, fun q => ⟨q, by omega⟩⟩)]
    · have := rem_1 hR M (by omega)
      rw [ind_c (Q := R M ∧ M ≠ p) (R := R M) ⟨fun q => q.1, fun q => ⟨q, fun e => z e.symm⟩⟩]
      omega
/-- as many at most, if each goes to one of its own -/
theorem cnt_le {Q : Nat → Prop} {Rel : Nat → Nat → Prop} {M : Nat} : ∀ (m : Nat) (R : Nat → Prop), (∀ c, c < m → Q c → ∃ c', c' < M ∧ R c' ∧ Rel c c') → (∀ a b c', a < m → b < m → Q a → Q b → Rel a c' → Rel b c' → a = b) → sumN (fun c => ind (Q c)) m ≤ sumN (fun c => ind (R c)) M
  | 0, R, _, _ => Nat.zero_le _
  | m + 1, R, h1, h2 => by
    show sumN (fun c => ind (Q c)) m + ind (Q m) ≤ _
    by_cases z : Q m
    · obtain ⟨p, p1, p2, p3⟩ := h1 m (by omega) z
      have ih := cnt_le m (fun c => R c ∧ c ≠ p) (fun c hc hq => by
        obtain ⟨c', e1, e2, e3⟩ := h1 c (by omega) hq
        exact ⟨c', e1, ⟨e2, fun e => by
          rw [e] at e3
          have := h2 c m p (by omega) (by omega) hq z e3 p3
          omega⟩, e3⟩) (fun a b c' ha hb => h2 a b c' (by omega) (by omega))
      have := rem_1 p2 M p1
      rw [ind_1 z]
      omega
    · rw [ind_0 z]
      exact cnt_le m R (fun c hc => h1 c (by omega)) (fun a b c' ha hb => h2 a b c' (by omega) (by omega))
