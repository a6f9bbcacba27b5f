/-! ===== 9c rumours: what follows, and what fits ===== -/
def AgA (nt : List jN) (b t : Nat → Int) : Prop := ∀ q ∈ nt, agr (b q.1) (t q.2.1) q.2.2
def leX (x : fX) (b t : Nat → Int) : Prop := (∀ w, x.1 w = -1 ∨ x.1 w = b w) ∧ ∀ f, x.2 f = -1 ∨ x.2 f = t f
theorem leX_b {x : fX} {b t : Nat → Int} (h : leX x b t) {w : Nat} {v : Int} (hv : v = b w) : leX (up x.1 w v, x.2) b t := by
  refine ⟨fun w' => ?_, h.2⟩
  simp only [up_at]
  split
  · rename_i e; rw [e]; exact Or.inr hv
  · exact h.1 w'
theorem leX_t {x : fX} {b t : Nat → Int} (h : leX x b t) {w : Nat} {v : Int} (hv : v = t w) : leX (x.1, up x.2 w v) b t := by
  refine ⟨h.1, fun w' => ?_⟩
  simp only [up_at]
  split
  · rename_i e; rw [e]; exact Or.inr hv
  · exact h.2 w'
theorem fl1_le {q : jN} {x : fX × Bool} {b t : Nat → Int} (ha : agr (b q.1) (t q.2.1) q.2.2) (h : leX x.1 b t) : ∃ y, fl1 q x = some y ∧ leX y.1 b t := by
  have h1 := h.1 q.1
  have h2 := h.2 q.2.1
  unfold fl1
  by_cases z1 : x.1.1 q.1 = -1
  · by_cases z2 : x.1.2 q.2.1 = -1
    · rw [if_neg (by omega), if_neg (by omega), if_pos ⟨z1, z2⟩]
      exact ⟨x, rfl, h⟩
    · rw [if_neg (by omega), if_pos ⟨z1, z2⟩, if_pos (by omega)]
      exact ⟨_, rfl, leX_b h (by omega)⟩
  · by_cases z2 : x.1.2 q.2.1 = -1
    · rw [if_pos ⟨z1, z2⟩, if_pos (by omega)]
      exact ⟨_, rfl, leX_t h (by omega)⟩
    · rw [if_neg (by omega), if_neg (by omega), if_neg (by omega), if_pos (by omega)]
      exact ⟨x, rfl, h⟩
theorem flP_le {b t : Nat → Int} : ∀ (l : List jN) (x : fX × Bool), AgA l b t → leX x.1 b t → ∃ y, flP l x = some y ∧ leX y.1 b t
  | [], x, _, h => ⟨x, rfl, h⟩
  | q :: l, x, ha, h => by
    obtain ⟨y, e, hy⟩ := fl1_le (ha q List.mem_cons_self) h
    obtain ⟨z, e2, hz⟩ := flP_le l y (fun p hp => ha p (List.mem_cons_of_mem _ hp)) hy
    refine ⟨z, ?_, hz⟩
    unfold flP
    rw [e]
    exact e2
theorem flR_le {l : List jN} {b t : Nat → Int} (ha : AgA l b t) : ∀ (m : Nat) (x : fX), leX x b t → ∃ y, flR l m x = some y ∧ leX y b t
  | 0, x, h => ⟨x, rfl, h⟩
  | m + 1, x, h => by
    obtain ⟨y, e, hy⟩ := flP_le l (x, false) ha h
    unfold flR
    rw [e]
    by_cases z : y.2 = true
    · simp only [if_pos z]; exact flR_le ha m y.1 hy
    · simp only [if_neg z]; exact ⟨y.1, rfl, hy⟩
theorem fol_le {l : List jN} {b t : Nat → Int} (ha : AgA l b t) (k : Nat) : ∃ y, fol l k (b k) = some y ∧ leX y b t := by
  refine flR_le ha 13 _ ⟨fun w => ?_, fun f => Or.inl rfl⟩
  simp only [up_at]
  split
  · rename_i e; rw [e]; exact Or.inr rfl
  · exact Or.inl rfl
-- what a pass keeps, and how much is unknown
def unk (p : Nat → Int) : Nat → Nat
  | 0 => 0
  | n + 1 => unk p n + if p n = -1 then 1 else 0
theorem unk_up {p : Nat → Int} {w : Nat} {v : Int} (hp : p w = -1) (hv : v ≠ -1) : ∀ n, (n ≤ w → unk (up p w v) n = unk p n) ∧ (w < n → unk (up p w v) n + 1 = unk p n)
  | 0 => ⟨fun _ => rfl, fun h => absurd h (by omega)⟩
  | n + 1 => by
    have ih := unk_up hp hv n
    unfold unk
    refine ⟨fun h => ?_, fun h => ?_⟩
    · rw [ih.1 (by omega), up_ne (by omega)]
    · by_cases z : w = n
      · subst z
        rw [ih.1 (Nat.le_refl _), up_eq, if_neg hv, if_pos hp]
      · have := ih.2 (by omega)
        rw [up_ne (by omega)]
        omega
def mu (x : fX) : Nat := unk x.1 4 + unk x.2 8
def keepX (x y : fX) : Prop := (∀ w, x.1 w ≠ -1 → y.1 w = x.1 w) ∧ ∀ f, x.2 f ≠ -1 → y.2 f = x.2 f
theorem keepX.rf (x : fX) : keepX x x := ⟨fun _ _ => rfl, fun _ _ => rfl⟩
theorem keepX.tr {x y z : fX} (h1 : keepX x y) (h2 : keepX y z) : keepX x z := ⟨fun w h => by rw [h2.1 w (by rw [h1.1 w h]; exact h), h1.1 w h], fun w h => by rw [h2.2 w (by rw [h1.2 w h]; exact h), h1.2 w h]⟩
theorem keep_b {x : fX} {w : Nat} {v : Int} (h : x.1 w = -1) : keepX x (up x.1 w v, x.2) := ⟨fun w' h' => up_ne (fun e => h' (by rw [e]; exact h)), fun _ _ => rfl⟩
theorem keep_t {x : fX} {w : Nat} {v : Int} (h : x.2 w = -1) : keepX x (x.1, up x.2 w v) := ⟨fun _ _ => rfl, fun w' h' => up_ne (fun e => h' (by rw [e]; exact h))⟩
theorem fl1_st {q : jN} {x y : fX × Bool} (hq : q.1 < 4 ∧ q.2.1 < 8) (h : fl1 q x = some y) : keepX x.1 y.1 ∧ ((y = x ∧ ((x.1.1 q.1 = -1 ∧ x.1.2 q.2.1 = -1) ∨ agr (x.1.1 q.1) (x.1.2 q.2.1) q.2.2)) ∨ (y.2 = true ∧ mu y.1 < mu x.1)) := by
  unfold fl1 at h
  split at h
  · rename_i z
    split at h
    · rename_i ha
      cases h
      have := (unk_up (p := x.1.2) (w := q.2.1) (v := q.2.2 - x.1.1 q.1) z.2 (by omega) 8).2 hq.2
      refine ⟨keep_t z.2, Or.inr ⟨rfl, ?_⟩⟩
      unfold mu
      simp only
      omega
    · cases h
  · split at h
    · rename_i z
      split at h
      · rename_i ha
        cases h
        have := (unk_up (p := x.1.1) (w := q.1) (v := q.2.2 - x.1.2 q.2.1) z.1 (by omega) 4).2 hq.1
        refine ⟨keep_b z.1, Or.inr ⟨rfl, ?_⟩⟩
        unfold mu
        simp only
        omega
      · cases h
    · split at h
      · rename_i z
        cases h
        exact ⟨keepX.rf _, Or.inl ⟨rfl, Or.inl z⟩⟩
      · split at h
        · rename_i z
          cases h
          exact ⟨keepX.rf _, Or.inl ⟨rfl, Or.inr z⟩⟩
        · cases h
theorem fl1_tr {q : jN} {x y : fX × Bool} (h : fl1 q x = some y) (hx : x.2 = true) : y.2 = true := by
  unfold fl1 at h
  repeat' split at h
  all_goals first | (cases h; first | rfl | exact hx) | cases h
def ClX (nt : List jN) (x : fX) : Prop := ∀ q ∈ nt, (x.1 q.1 = -1 ∧ x.2 q.2.1 = -1) ∨ agr (x.1 q.1) (x.2 q.2.1) q.2.2
theorem flP_tr : ∀ (l : List jN) (x y : fX × Bool), flP l x = some y → x.2 = true → y.2 = true
  | [], x, y, h, hx => by cases h; exact hx
  | q :: l, x, y, h, hx => by
    unfold flP at h
    split at h
    · cases h
    · rename_i z hz
      exact flP_tr l z y h (fl1_tr hz hx)
theorem flP_st : ∀ (l : List jN) (x y : fX × Bool), (∀ q ∈ l, q.1 < 4 ∧ q.2.1 < 8) → flP l x = some y → keepX x.1 y.1 ∧ mu y.1 ≤ mu x.1 ∧ ((y = x ∧ ClX l x.1) ∨ (y.2 = true ∧ mu y.1 < mu x.1))
  | [], x, y, _, h => by cases h; exact ⟨keepX.rf _, Nat.le_refl _, Or.inl ⟨rfl, fun q hq => absurd hq (by simp)⟩⟩
  | q :: l, x, y, hq, h => by
    unfold flP at h
    split at h
    · cases h
    · rename_i z hz
      obtain ⟨k1, s1⟩ := fl1_st (hq q List.mem_cons_self) hz
      obtain ⟨k2, m2, s2⟩ := flP_st l z y (fun p hp => hq p (List.mem_cons_of_mem _ hp)) h
      refine ⟨k1.tr k2, ?_, ?_⟩
      · rcases s1 with ⟨e, -⟩ | ⟨-, e⟩
        · rw [e] at m2; exact m2
        · omega
      · rcases s1 with ⟨e, c⟩ | ⟨e, c⟩
        · subst e
          rcases s2 with ⟨e2, c2⟩ | s2
          · refine Or.inl ⟨e2, fun p hp => ?_⟩
            rcases List.mem_cons.mp hp with rfl | hp
            · exact c
            · exact c2 p hp
          · exact Or.inr s2
        · exact Or.inr ⟨flP_tr l z y h e, by omega⟩
theorem flR_st {l : List jN} (hl : ∀ q ∈ l, q.1 < 4 ∧ q.2.1 < 8) : ∀ (m : Nat) (x y : fX), mu x < m → FB x → flR l m x = some y → keepX x y ∧ ClX l y ∧ FB y
  | 0, x, y, hm, _, h => absurd hm (by omega)
  | m + 1, x, y, hm, hb, h => by
    unfold flR at h
    split at h
    · cases h
    · rename_i z hz
      obtain ⟨k1, m1, s1⟩ := flP_st l (x, false) z hl hz
      have b1 := flP_b l (x, false) z hb hz
      split at h
      · rename_i zt
        rcases s1 with ⟨e, -⟩ | ⟨-, e⟩
        · rw [e] at zt; exact absurd zt (by simp)
        · have e : mu z.1 < mu x := e
          obtain ⟨k2, c2, b2⟩ := flR_st hl m z.1 y (by omega) b1 h
          exact ⟨k1.tr k2, c2, b2⟩
      · rename_i zt
        cases h
        rcases s1 with ⟨e, c⟩ | ⟨e, -⟩
        · rw [e]; exact ⟨keepX.rf _, c, hb⟩
        · exact absurd e zt
theorem unk_c : ∀ n, unk (fun _ => -1) n = n
  | 0 => rfl
  | n + 1 => by unfold unk; rw [unk_c n, if_pos rfl]
theorem fol_st {l : List jN} (hl : NOK l) {k : Nat} (hk : k < 4) {g : Int} (hg : 0 ≤ g ∧ g ≤ 9) {y : fX} (h : fol l k g = some y) : y.1 k = g ∧ ClX l y ∧ FB y := by
  have hm : mu (up (fun _ => -1) k g, fun _ => -1) < 13 := by
    have := (unk_up (p := fun _ => (-1 : Int)) (w := k) (v := g) rfl (by omega) 4).2 hk
    unfold mu
    simp only
    rw [unk_c] at *
    omega
  have hb : FB (up (fun _ => -1) k g, fun _ => -1) := by
    refine ⟨fun w => ?_, fun f => show (-1 : Int) ≤ -1 ∧ (-1 : Int) ≤ 20 by decide⟩
    simp only [up_at]
    split
    · omega
    · decide
  obtain ⟨k1, c1, b1⟩ := flR_st (fun q hq => ⟨(hl.2 q hq).1, (hl.2 q hq).2.1⟩) 13 _ y hm hb h
  refine ⟨?_, c1, b1⟩
  rw [k1.1 k (by simp only [up_eq]; omega)]
  show up (fun _ => (-1 : Int)) k g k = g
  exact up_eq _ _ _
/-- two that are closed, side by side -/
def mrg (x y : fX) : fX := (fun w => if x.1 w = -1 then y.1 w else x.1 w, fun f => if x.2 f = -1 then y.2 f else x.2 f)
theorem mrg_cl {l : List jN} {x y : fX} (hx : ClX l x) (hy : ClX l y) : ClX l (mrg x y) := by
  intro q hq
  unfold mrg
  rcases hx q hq with h | h
  · simp only [if_pos h.1, if_pos h.2]; exact hy q hq
  · simp only [if_neg (show ¬ x.1 q.1 = -1 by omega), if_neg (show ¬ x.2 q.2.1 = -1 by omega)]; exact Or.inr h
theorem mrg_b {x y : fX} (hx : FB x) (hy : FB y) : FB (mrg x y) := by
  refine ⟨fun w => ?_, fun f => ?_⟩
  · unfold mrg; simp only; split
    · exact hy.1 w
    · exact hx.1 w
  · unfold mrg; simp only; split
    · exact hy.2 f
    · exact hx.2 f
/-- every kingdom has a bias from which nothing follows that can't be -/
def Snd (l : List jN) (K : Nat) : Prop := ∀ k, k < K → ∃ g : Nat, g < 10 ∧ ∃ y, fol l k g = some y
/-- a closed start goes on to all kingdoms -/
theorem ext_all {l : List jN} {K : Nat} (hl : NOK l) (hK : K ≤ 4) (hs : Snd l K) {x : fX} (hx : ClX l x) (hb : FB x) : ∃ y, ClX l y ∧ FB y ∧ keepX x y ∧ ∀ w, w < K → y.1 w ≠ -1 := by
  have : ∀ j, j ≤ K → ∃ y, ClX l y ∧ FB y ∧ keepX x y ∧ ∀ w, w < j → y.1 w ≠ -1 := by
    intro j
    induction j with
    | zero => intro _; exact ⟨x, hx, hb, keepX.rf x, fun w hw => absurd hw (by omega)⟩
    | succ j ih =>
      intro hj
      obtain ⟨y, c, b, k, h⟩ := ih (by omega)
      obtain ⟨g, g10, z, hz⟩ := hs j (by omega)
      obtain ⟨e1, c1, b1⟩ := fol_st hl (by omega) (g := g) (by omega) hz
      refine ⟨mrg y z, mrg_cl c c1, mrg_b b b1, k.tr ⟨fun w hw => ?_, fun f hf => ?_⟩, fun w hw => ?_⟩
      · unfold mrg; simp only; rw [if_neg hw]
      · unfold mrg; simp only; rw [if_neg hf]
      · unfold mrg
        simp only
        by_cases q : w = j
        · subst q
          split
          · rw [e1]; omega
          · assumption
        · have := h w (by omega)
          rw [if_neg this]
          exact this
  exact this K (Nat.le_refl K)
theorem fit_of {l : List jN} {K : Nat} (hl : NOK l) (hK : K ≤ 4) (hq : ∀ q ∈ l, q.1 < K) (hs : Snd l K) {x : fX} (hx : ClX l x) (hb : FB x) : ∃ b t : Nat → Int, AgA l b t ∧ (∀ w, w < K → 0 ≤ b w ∧ b w ≤ 9) ∧ keepX x (b, t) := by
  obtain ⟨y, c, b, k, h⟩ := ext_all hl hK hs hx hb
  refine ⟨y.1, y.2, fun q hq' => ?_, fun w hw => ?_, k⟩
  · rcases c q hq' with h1 | h1
    · exact absurd h1.1 (h _ (hq q hq'))
    · exact h1
  · have := b.1 w
    have := h w hw
    omega
theorem snd_of {l : List jN} {K : Nat} {b t : Nat → Int} (ha : AgA l b t) (hb : ∀ w, w < K → 0 ≤ b w ∧ b w ≤ 9) : Snd l K := by
  intro k hk
  have := hb k hk
  obtain ⟨y, e, -⟩ := fol_le ha k
  refine ⟨(b k).toNat, by omega, y, ?_⟩
  rw [Int.toNat_of_nonneg this.1]
  exact e
-- bits
theorem jor_nat {a b : Nat} (h : a ||| b < 2147483648) : jor (a : Int) (b : Int) = ((a ||| b : Nat) : Int) := by
  unfold jor
  rw [of_nat, of_nat, nI_or, nI_int h]
theorem orN {u : Nat → Nat} {m : Nat} (hm : m ≤ 31) : ∀ n, (∀ i, i < n → u i < 2 ^ m) → ∃ y : Nat, y < 2 ^ m ∧ orF (fun i => (u i : Int)) n = y ∧ ∀ g, y.testBit g = true ↔ ∃ i, i < n ∧ (u i).testBit g = true
  | 0, _ => ⟨0, Nat.pow_pos (by decide), rfl, fun g => ⟨fun h => by simp at h, fun ⟨i, h, _⟩ => absurd h (by omega)⟩⟩
  | n + 1, h => by
    obtain ⟨y, h1, h2, h3⟩ := orN hm n (fun i hi => h i (by omega))
    have hp : 2 ^ m ≤ 2 ^ 31 := Nat.pow_le_pow_right (by decide) hm
    have hl : y ||| u n < 2 ^ m := Nat.or_lt_two_pow h1 (h n (by omega))
    refine ⟨y ||| u n, hl, ?_, fun g => ?_⟩
    · show jor (orF (fun i => (u i : Int)) n) (u n : Int) = _
      rw [h2, jor_nat (by omega)]
    · rw [Nat.testBit_or, Bool.or_eq_true, h3]
      constructor
      · rintro (⟨i, hi, e⟩ | e)
        · exact ⟨i, by omega, e⟩
        · exact ⟨n, by omega, e⟩
      · rintro ⟨i, hi, e⟩
        by_cases z : i = n
        · rw [z] at e; exact Or.inr e
        · exact Or.inl ⟨i, by omega, e⟩
theorem jshl_two {g : Nat} (h : g < 31) : jshl 1 g = ((2 ^ g : Nat) : Int) := by
  have hp : 2 ^ g ≤ 2 ^ 30 := Nat.pow_le_pow_right (by decide) (by omega)
  have := jshl_nat (o := 1) (s := g) h (by omega)
  rw [Nat.one_mul] at this
  exact this
theorem fitS_b (l : List jN) (k : Nat) : ∃ y : Nat, y < 1024 ∧ fitS l k = y ∧ ∀ g : Nat, y.testBit g = true ↔ (g < 10 ∧ ∃ x, fol l k g = some x) := by
  obtain ⟨y, h1, h2, h3⟩ := orN (u := fun g => if (fol l k (g : Nat)).isSome = true then 2 ^ g else 0) (m := 10) (by decide) 10 (fun i hi => by
    split
    · exact Nat.pow_lt_pow_right (by decide) hi
    · exact Nat.pow_pos (by decide))
  refine ⟨y, h1, ?_, fun g => ?_⟩
  · rw [← h2]
    unfold fitS
    refine orF_congr 10 (fun i hi => ?_)
    unfold fitV
    split
    · exact jshl_two (by omega)
    · rfl
  · rw [h3]
    constructor
    · rintro ⟨i, hi, e⟩
      split at e
      · rename_i hz
        rw [Nat.testBit_two_pow] at e
        have e : i = g := of_decide_eq_true e
        subst e
        exact ⟨hi, Option.isSome_iff_exists.mp hz⟩
      · simp at e
    · rintro ⟨hg, x, hx⟩
      refine ⟨g, hg, ?_⟩
      rw [hx]
      simp [Nat.testBit_two_pow]
theorem fitS_0 {l : List jN} {k : Nat} : fitS l k ≠ 0 ↔ ∃ g : Nat, g < 10 ∧ ∃ x, fol l k g = some x := by
  obtain ⟨y, h1, h2, h3⟩ := fitS_b l k
  rw [h2]
  constructor
  · intro h
    have : y ≠ 0 := by omega
    obtain ⟨g, hg⟩ := Nat.exists_testBit_of_ne_zero this
    exact ⟨g, (h3 g).mp hg⟩
  · rintro ⟨g, hg⟩ e
    have := (h3 g).mpr hg
    have e : y = 0 := by omega
    rw [e] at this
    simp at this
theorem sndS_iff {l : List jN} : ∀ K, sndS l K = true ↔ Snd l K
  | 0 => ⟨fun _ k hk => absurd hk (by omega), fun _ => rfl⟩
  | K + 1 => by
    unfold sndS
    rw [Bool.and_eq_true, sndS_iff K, decide_eq_true_iff, fitS_0]
    constructor
    · rintro ⟨h1, h2⟩ k hk
      by_cases z : k = K
      · rw [z]; exact h2
      · exact h1 k (by omega)
    · intro h
      exact ⟨fun k hk => h k (by omega), h K (by omega)⟩
-- the model's pass
def mf1 (b : Nat → Int) : List jN → (Nat → Int) → Option (Nat → Int)
  | [], t => some t
  | q :: l, t => if (0 ≤ q.2.2 - b q.1 ∧ q.2.2 - b q.1 ≤ 20) ∧ (t q.2.1 = -1 ∨ t q.2.1 = q.2.2 - b q.1) then mf1 b l (up t q.2.1 (q.2.2 - b q.1)) else none
theorem mf1_ok {b τ : Nat → Int} : ∀ (l : List jN) (t : Nat → Int), AgA l b τ → (∀ f, t f = -1 ∨ t f = τ f) → ∃ t', mf1 b l t = some t'
  | [], t, _, _ => ⟨t, rfl⟩
  | q :: l, t, ha, ht => by
    have a := ha q List.mem_cons_self
    have h := ht q.2.1
    unfold mf1
    rw [if_pos (by omega)]
    refine mf1_ok l _ (fun p hp => ha p (List.mem_cons_of_mem _ hp)) (fun f => ?_)
    simp only [up_at]
    split
    · rename_i e; rw [e]; right; omega
    · exact ht f
theorem mf1_st {b : Nat → Int} : ∀ (l : List jN) (t t' : Nat → Int), mf1 b l t = some t' → (∀ f, t f ≠ -1 → t' f = t f) ∧ (∀ q ∈ l, t' q.2.1 = q.2.2 - b q.1 ∧ 0 ≤ t' q.2.1 ∧ t' q.2.1 ≤ 20) ∧ ∀ f, (∀ q ∈ l, q.2.1 ≠ f) → t' f = t f
  | [], t, t', h => by cases h; exact ⟨fun _ _ => rfl, fun q hq => absurd hq (by simp), fun _ _ => rfl⟩
  | q :: l, t, t', h => by
    unfold mf1 at h
    split at h
    · rename_i z
      obtain ⟨h1, h2, h3⟩ := mf1_st l _ t' h
      have e : t' q.2.1 = q.2.2 - b q.1 := by rw [h1 q.2.1 (by rw [up_eq]; omega), up_eq]
      refine ⟨fun f hf => ?_, fun p hp => ?_, fun f hf => ?_⟩
      · by_cases y : f = q.2.1
        · rw [y] at hf ⊢; omega
        · rw [h1 f (by rw [up_ne y]; exact hf), up_ne y]
      · rcases List.mem_cons.mp hp with rfl | hp
        · omega
        · exact h2 p hp
      · rw [h3 f (fun p hp => hf p (List.mem_cons_of_mem _ hp)), up_ne (fun e => hf q List.mem_cons_self e.symm)]
    · cases h
def mfS (l : List jN) (b : Nat → Int) : Option (Nat → Int) := mf1 b l (fun _ => -1)
theorem mfS_ag {l : List jN} {b t : Nat → Int} {K : Nat} (hb : ∀ w, w < K → 0 ≤ b w ∧ b w ≤ 9) (hq : ∀ q ∈ l, q.1 < K) (h : mfS l b = some t) : AgA l b t := by
  intro q hq'
  have := (mf1_st l _ t h).2.1 q hq'
  have := hb q.1 (hq q hq')
  omega
theorem mfS_of {l : List jN} {b b' t : Nat → Int} {K : Nat} (ha : AgA l b t) (hq : ∀ q ∈ l, q.1 < K) (he : ∀ w, w < K → b' w = b w) : ∃ t', mfS l b' = some t' := by
  refine mf1_ok (τ := t) l _ (fun q hq' => ?_) (fun f => Or.inl rfl)
  rw [he q.1 (hq q hq')]
  exact ha q hq'
/-- the digits of a code -/
def dgN (c k : Nat) : Nat := c / 10 ^ k % 10
def dg (c : Nat) (k : Nat) : Int := (dgN c k : Int)
theorem dg_in (c k : Nat) : 0 ≤ dg c k ∧ dg c k ≤ 9 := by unfold dg dgN; omega
theorem code_ex {K : Nat} (hK : K ≤ 4) {b : Nat → Int} (hb : ∀ w, w < K → 0 ≤ b w ∧ b w ≤ 9) : ∃ c, c < 10 ^ K ∧ ∀ w, w < K → dg c w = b w := by
  rcases (show K = 0 ∨ K = 1 ∨ K = 2 ∨ K = 3 ∨ K = 4 by omega) with rfl | rfl | rfl | rfl | rfl
  · exact ⟨0, by decide, fun w hw => absurd hw (by omega)⟩
  · have h0 := hb 0 (by decide)
    refine ⟨(b 0).toNat, by omega, fun w hw => ?_⟩
    obtain rfl : w = 0 := by omega
    unfold dg dgN; omega
  · have h0 := hb 0 (by decide)
    have h1 := hb 1 (by decide)
    refine ⟨(b 0).toNat + 10 * (b 1).toNat, by omega, fun w hw => ?_⟩
    rcases (show w = 0 ∨ w = 1 by omega) with rfl | rfl <;> (unfold dg dgN; omega)
  · have h0 := hb 0 (by decide)
    have h1 := hb 1 (by decide)
    have h2 := hb 2 (by decide)
    refine ⟨(b 0).toNat + 10 * (b 1).toNat + 100 * (b 2).toNat, by omega, fun w hw => ?_⟩
    rcases (show w = 0 ∨ w = 1 ∨ w = 2 by omega) with rfl | rfl | rfl <;> (unfold dg dgN; omega)
  · have h0 := hb 0 (by decide)
    have h1 := hb 1 (by decide)
    have h2 := hb 2 (by decide)
    have h3 := hb 3 (by decide)
    refine ⟨(b 0).toNat + 10 * (b 1).toNat + 100 * (b 2).toNat + 1000 * (b 3).toNat, by omega, fun w hw => ?_⟩
    rcases (show w = 0 ∨ w = 1 ∨ w = 2 ∨ w = 3 by omega) with rfl | rfl | rfl | rfl <;> (unfold dg dgN; omega)
