/-! ===== 59 a law's worth is one number ===== -/
def exS (e : Nat → Int) (w : Int) (s : List Int) : List Int :=
  if w % 16 = 0 then (w / 16) :: s else if w % 16 = 1 then e (w / 16).toNat :: s
  else match s with
    | [] => []
    | a :: s' => if w = 4 then (1 - a) :: s' else match s' with
      | [] => []
      | b :: s'' => jvn w.toNat b a :: s''
/-- a law worked off; sk: what stands ahead of the next clause is passed over -/
def lawX (e : Nat → Int) : List Int → Bool → List Int → Option Int
  | [], _, _ => none
  | w :: c, true, s => if w = 2 then lawX e c false [] else lawX e c true s
  | w :: c, false, s => if w = 2 then s.head? else if w % 16 = 3 then lawX e c (decide (s.head? = some 0)) [] else lawX e c false (exS e w s)
def lawV (e : Nat → Int) (c : List Int) : Int := (lawX e c false []).getD 0
theorem lawX_1 {e : Nat → Int} {w : Int} {c s : List Int} (h2 : w ≠ 2) (h3 : w % 16 ≠ 3) : lawX e (w :: c) false s = lawX e c false (exS e w s) := by
  simp only [lawX]; rw [if_neg h2, if_neg h3]
theorem lawX_2 {e : Nat → Int} {w : Int} {c s : List Int} (h2 : w ≠ 2) : lawX e (w :: c) true s = lawX e c true s := by
  simp only [lawX]; rw [if_neg h2]
theorem exS_bin {e : Nat → Int} {o : Nat} {a b : Int} {s : List Int} (h5 : 5 ≤ o) (h13 : o ≤ 13) : exS e o (b :: a :: s) = jvn o a b :: s := by
  unfold exS
  rw [if_neg (by omega), if_neg (by omega)]
  simp only
  rw [if_neg (by omega), Int.toNat_natCast]
theorem Ev.run {e : Nat → Int} {t : Bool} {h : Nat} {c : List Int} {v : Int} (hv : Ev e t h c v) : (∀ r s, lawX e (c ++ r) false s = lawX e r false (v :: s)) ∧ ∀ r s, lawX e (c ++ r) true s = lawX e r true s := by
  have bin : ∀ (o : Nat) (c1 c2 : List Int) (v1 v2 : Int), 5 ≤ o → o ≤ 13 → ((∀ r s, lawX e (c1 ++ r) false s = lawX e r false (v1 :: s)) ∧ ∀ r s, lawX e (c1 ++ r) true s = lawX e r true s) → ((∀ r s, lawX e (c2 ++ r) false s = lawX e r false (v2 :: s)) ∧ ∀ r s, lawX e (c2 ++ r) true s = lawX e r true s) → ((∀ r s, lawX e (c1 ++ c2 ++ [(o : Int)] ++ r) false s = lawX e r false (jvn o v1 v2 :: s)) ∧ ∀ r s, lawX e (c1 ++ c2 ++ [(o : Int)] ++ r) true s = lawX e r true s) := by
    intro o c1 c2 v1 v2 h5 h13 p1 p2
    refine ⟨fun r s => ?_, fun r s => ?_⟩
    · simp only [List.append_assoc]
      rw [p1.1, p2.1, List.cons_append, List.nil_append, lawX_1 (by omega) (by omega), exS_bin h5 h13]
    · simp only [List.append_assoc]
      rw [p1.2, p2.2, List.cons_append, List.nil_append, lawX_2 (by omega)]
  refine hv (fun t h c v => (∀ r s, lawX e (c ++ r) false s = lawX e r false (v :: s)) ∧ ∀ r s, lawX e (c ++ r) true s = lawX e r true s) ⟨fun v h0 h9 => ⟨fun r s => ?_, fun r s => ?_⟩, fun k hk => ⟨fun r s => ?_, fun r s => ?_⟩, fun o h1 h2 h c1 c2 v1 v2 o5 o8 p1 p2 _ _ => bin o c1 c2 v1 v2 o5 (by omega) p1 p2, fun o h1 h2 h c1 c2 v1 v2 o5 o8 p1 p2 _ _ => bin o c1 c2 v1 v2 (by omega) (by omega) p1 p2, fun o h1 h2 h c1 c2 v1 v2 o5 o8 p1 p2 _ _ => bin o c1 c2 v1 v2 (by omega) (by omega) p1 p2, fun h c v p => ⟨fun r s => ?_, fun r s => ?_⟩, fun t h h' c v p _ => p⟩
  · rw [List.cons_append, List.nil_append, lawX_1 (by omega) (by omega)]
    unfold exS
    rw [if_pos (by omega), show v * 16 / 16 = v by omega]
  · rw [List.cons_append, List.nil_append, lawX_2 (by omega)]
  · rw [List.cons_append, List.nil_append, lawX_1 (by omega) (by omega)]
    unfold exS
    rw [if_neg (by omega), if_pos (by omega), show (((k : Int) * 16 + 1) / 16).toNat = k by omega]
  · rw [List.cons_append, List.nil_append, lawX_2 (by omega)]
  · simp only [List.append_assoc]
    rw [p.1, List.cons_append, List.nil_append, lawX_1 (by omega) (by omega)]
    rfl
  · simp only [List.append_assoc]
    rw [p.2, List.cons_append, List.nil_append, lawX_2 (by omega)]
theorem LE.run {e : Nat → Int} {c : List Int} {o : Option Int} (h : LE e c o) : ∀ r, lawX e (c ++ r) false [] = or2 o (lawX e r false []) := by
  refine h (fun c o => ∀ r, lawX e (c ++ r) false [] = or2 o (lawX e r false [])) (fun r => rfl) ?_
  intro c c2 o o2 p hce r
  rw [List.append_assoc, p]
  have : lawX e (c2 ++ r) false [] = or2 o2 (lawX e r false []) := by
    rcases hce with ⟨c1, v, h1, rfl, rfl⟩ | ⟨cc, t, cv, v, h1, h2, rfl, rfl⟩
    · rw [List.append_assoc, h1.run.1]
      rfl
    · simp only [List.append_assoc]
      rw [h1.run.1, List.cons_append, List.nil_append]
      simp only [lawX]
      rw [if_neg (by omega), if_pos (by omega)]
      by_cases z : t = 0
      · rw [if_pos z, show decide ((t :: ([] : List Int)).head? = some 0) = true by simp [z], h2.run.2]
        rfl
      · rw [if_neg z, show decide ((t :: ([] : List Int)).head? = some 0) = false by simp [z], h2.run.1]
        rfl
  rw [this]
  cases o <;> rfl
theorem LE.val {e : Nat → Int} {c : List Int} {o : Option Int} (h : LE e c o) : o.getD 0 = lawV e c := by
  have := h.run []
  rw [List.append_nil] at this
  unfold lawV
  rw [this]
  cases o <;> rfl
theorem Ev.any {e e' : Nat → Int} {t : Bool} {h : Nat} {c : List Int} {v : Int} (hv : Ev e t h c v) : ∃ v', Ev e' t h c v' := by
  refine hv (fun t h c _ => ∃ v', Ev e' t h c v') ⟨fun v h0 h9 => ⟨_, Ev.num h0 h9⟩, fun k hk => ⟨_, Ev.let hk⟩, fun o h1 h2 h c1 c2 v1 v2 o5 o8 ⟨_, p1⟩ ⟨_, p2⟩ a b => ⟨_, Ev.ari o5 o8 p1 p2 a b⟩, fun o h1 h2 h c1 c2 v1 v2 o5 o8 ⟨_, p1⟩ ⟨_, p2⟩ a b => ⟨_, Ev.cmp o5 o8 p1 p2 a b⟩, fun o h1 h2 h c1 c2 v1 v2 o5 o8 ⟨_, p1⟩ ⟨_, p2⟩ a b => ⟨_, Ev.log o5 o8 p1 p2 a b⟩, fun h c v ⟨_, p⟩ => ⟨_, p.not⟩, fun t h h' c v ⟨_, p⟩ a => ⟨_, p.wk a⟩⟩
theorem LE.any {e e' : Nat → Int} {c : List Int} {o : Option Int} (h : LE e c o) : ∃ o', LE e' c o' := by
  refine h (fun c _ => ∃ o', LE e' c o') ⟨_, LE.nil e'⟩ ?_
  rintro c c2 o o2 ⟨o', p⟩ hce
  rcases hce with ⟨c1, v, h1, rfl, -⟩ | ⟨cc, t, cv, v, h1, h2, rfl, -⟩
  · obtain ⟨v', q⟩ := h1.any (e' := e')
    exact ⟨_, p.snoc (Or.inl ⟨c1, v', q, rfl, rfl⟩)⟩
  · obtain ⟨t', q⟩ := h1.any (e' := e')
    obtain ⟨v', q2⟩ := h2.any (e' := e')
    exact ⟨_, p.snoc (Or.inr ⟨cc, t', cv, v', q, q2, rfl, rfl⟩)⟩
/-- a code that a law's reader has made -/
def LOK (c : List Int) : Prop := ∀ e, ∃ o, LE e c o
theorem LE.ok {e : Nat → Int} {c : List Int} {o : Option Int} (h : LE e c o) : LOK c := fun _ => h.any
theorem LOK.at {c : List Int} (h : LOK c) (e : Nat → Int) : ∃ o, LE e c o ∧ o.getD 0 = lawV e c := by
  obtain ⟨o, p⟩ := h e
  exact ⟨o, p, p.val⟩
/-- places that may change -/
abbrev jS : Type := Nat → Nat → Nat → Prop
def Fr (S : jS) (σ τ : jM) : Prop := ∀ k j o, ¬ S k j o → τ.1 k j o = σ.1 k j o ∧ τ.2.1 k j o = σ.2.1 k j o ∧ τ.2.2 k j o = σ.2.2 k j o
theorem Fr.rf {S : jS} {σ : jM} : Fr S σ σ := fun _ _ _ _ => ⟨rfl, rfl, rfl⟩
theorem Fr.tr {S : jS} {σ τ υ : jM} (h1 : Fr S σ τ) (h2 : Fr S τ υ) : Fr S σ υ := fun k j o hs => ⟨(h2 k j o hs).1.trans (h1 k j o hs).1, (h2 k j o hs).2.1.trans (h1 k j o hs).2.1, (h2 k j o hs).2.2.trans (h1 k j o hs).2.2⟩
theorem Fr.wk {S S' : jS} {σ τ : jM} (h : Fr S σ τ) (hs : ∀ k j o, S k j o → S' k j o) : Fr S' σ τ := fun k j o hn => h k j o (fun q => hn (hs k j o q))
theorem Fr.i {S : jS} {σ τ : jM} (h : Fr S σ τ) {k j o : Nat} (hs : ¬ S k j o) : τ.1 k j o = σ.1 k j o := (h k j o hs).1
theorem Fr.l {S : jS} {σ τ : jM} (h : Fr S σ τ) {k j o : Nat} (hs : ¬ S k j o) : τ.2.1 k j o = σ.2.1 k j o := (h k j o hs).2.1
theorem Fr.r {S : jS} {σ τ : jM} (h : Fr S σ τ) {k j o : Nat} (hs : ¬ S k j o) : τ.2.2 k j o = σ.2.2 k j o := (h k j o hs).2.2
theorem Fr.sI {S : jS} {σ τ : jM} (h : Fr S σ τ) {k j o : Nat} {v : Int} (hs : S k j o) : Fr S σ (sI τ k j o v) := fun k' j' o' hn => by
  have := h k' j' o' hn
  refine ⟨?_, this.2⟩
  simp only [g_sI]
  rw [if_neg (fun q => hn (by rw [q.1, q.2.1, q.2.2]; exact hs))]
  exact this.1
theorem Fr.sL {S : jS} {σ τ : jM} (h : Fr S σ τ) {k j o : Nat} {v : Int} (hs : S k j o) : Fr S σ (sL τ k j o v) := fun k' j' o' hn => by
  have := h k' j' o' hn
  refine ⟨this.1, ?_, this.2.2⟩
  simp only [g_sL]
  rw [if_neg (fun q => hn (by rw [q.1, q.2.1, q.2.2]; exact hs))]
  exact this.2.1
theorem Fr.sR {S : jS} {σ τ : jM} (h : Fr S σ τ) {k j o : Nat} {v : Option Nat} (hs : S k j o) : Fr S σ (sR τ k j o v) := fun k' j' o' hn => by
  have := h k' j' o' hn
  refine ⟨this.1, this.2.1, ?_⟩
  simp only [g_sR]
  rw [if_neg (fun q => hn (by rw [q.1, q.2.1, q.2.2]; exact hs))]
  exact this.2.2
theorem Fr.sA {S : jS} {σ τ : jM} (h : Fr S σ τ) {k j : Nat} {f : Nat → Int} (hs : ∀ o, S k j o) : Fr S σ (sA τ k j f) := fun k' j' o' hn => by
  have := h k' j' o' hn
  refine ⟨?_, this.2⟩
  simp only [g_sA]
  rw [if_neg (fun q => hn (by rw [q.1, q.2]; exact hs o'))]
  exact this.1
theorem AW.fr {l : Nat} {σ τ : jM} (h : AW l σ τ) : Fr (fun k j _ => j = l ∧ (k = 24 ∨ k = 25)) σ τ := fun k j o hn => ⟨h.at hn, by rw [h.1], by rw [h.1]⟩
