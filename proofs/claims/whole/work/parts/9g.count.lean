/-! ===== 9g whom to read: how many fit ===== -/
def toldF (nt : List jN) (f : Nat) : Prop := ∃ q ∈ nt, q.2.1 = f
def okA (nt : List jN) (f c v : Nat) : Prop := ∃ t, AgA nt (dg c) t ∧ (toldF nt f → t f = v)
noncomputable def Nn (nt : List jN) (K f k b v : Nat) : Nat := sumN (fun c => ind (dgN c k = b ∧ okA nt f c v)) (10 ^ K)
section NC2
variable {nt : List jN} {K f k : Nat}
theorem ag_c {b b' t : Nat → Int} (hq : ∀ q ∈ nt, q.1 < K) (h : AgA nt b t) (e : ∀ w, w < K → b' w = b w) : AgA nt b' t := fun q hq' => by rw [e q.1 (hq q hq')]; exact h q hq'
theorem mv_rg {x y : fX} {δ : Int} {c w : Nat} (hs : shX δ x y) (hb : FB y) : 0 ≤ (if x.1 w = -1 then dg c w else y.1 w) ∧ (if x.1 w = -1 then dg c w else y.1 w) ≤ 9 := by
  have s := hs.1 w
  have b := hb.1 w
  have d := dg_in c w
  unfold sh2 at s
  split <;> omega
theorem Nb_le {b b' v : Nat} (hl : NOK nt) (hK : K ≤ 4) (hk : k < K) (hq : ∀ q ∈ nt, q.1 < K) (hub : ∀ (g : Int) x, 0 ≤ g ∧ g ≤ 9 → fol nt k g = some x → x.2 f = -1) (hb' : BiM nt K k b') : Nn nt K f k b v ≤ Nn nt K f k b' v := by
  obtain ⟨β, τ, hβ, hβr, hβk⟩ := hb'
  obtain ⟨y, hy, -⟩ := fol_le hβ k
  rw [hβk] at hy
  have b9 := hβr k hk
  obtain ⟨yk, yc, yb⟩ := fol_st hl (by omega) (g := b') (by omega) hy
  refine cnt_le (Rel := fun c c' => ∃ x, fol nt k b = some x ∧ ∀ w, w < K → dg c' w = if x.1 w = -1 then dg c w else y.1 w) (10 ^ K) (fun c => dgN c k = b' ∧ okA nt f c v) (fun c hc ⟨q1, t, q2, q3⟩ => ?_) (fun a a' c' ha ha' ⟨q1, t, q2, q3⟩ ⟨r1, t', r2, r3⟩ ⟨x, e1, e2⟩ ⟨x', e1', e2'⟩ => ?_)
  · obtain ⟨x, hx, -⟩ := fol_le q2 k
    have ek : dg c k = b := by unfold dg; rw [q1]
    have d9 := dg_in c k
    rw [ek] at hx d9
    obtain ⟨xk, xc, xb⟩ := fol_st hl (by omega) (g := b) d9 hx
    have hs := fol_sh d9.1 (by omega) hx hy
    have hag := mv_ag q2 xc yc hs
    obtain ⟨c', hc', hd⟩ := code_ex hK (b := fun w => if x.1 w = -1 then dg c w else y.1 w) (fun w _ => mv_rg hs yb)
    refine ⟨c', hc', ⟨?_, _, ag_c hq hag hd, fun ht => ?_⟩, x, hx, hd⟩
    · have := hd k hk
      rw [if_neg (by rw [xk]; omega), yk] at this
      unfold dg at this
      omega
    · rw [if_pos (hub b x d9 hx)]
      exact q3 ht
  · obtain rfl : x = x' := by rw [e1] at e1'; exact Option.some.inj e1'
    have ex : ∀ (a : Nat) (t : Nat → Int), dgN a k = b → AgA nt (dg a) t → ∀ w, x.1 w ≠ -1 → dg a w = x.1 w := by
      intro a t ea ga w hw
      obtain ⟨z, hz, hz2⟩ := fol_le ga k
      have : dg a k = b := by unfold dg; rw [ea]
      rw [this, e1] at hz
      obtain rfl := Option.some.inj hz
      rcases hz2.1 w with e | e
      · exact absurd e hw
      · exact e.symm
    refine dig_inj hK ha ha' (fun w hw => ?_)
    have g1 := e2 w hw
    have g2 := e2' w hw
    by_cases z : x.1 w = -1
    · rw [if_pos z] at g1 g2
      rw [← g1, ← g2]
    · rw [ex a t q1 q2 w z, ex a' t' r1 r2 w z]
theorem Nt_le {b v v' : Nat} {q0 : jN} (hl : NOK nt) (hK : K ≤ 4) (hk : k < K) (hq : ∀ q ∈ nt, q.1 < K) (hub : ∀ (g : Int) x, 0 ≤ g ∧ g ≤ 9 → fol nt k g = some x → x.2 f = -1) (hm : q0 ∈ nt) (hf : q0.2.1 = f) (ht' : TrM nt K f v') : Nn nt K f k b v ≤ Nn nt K f k b v' := by
  subst hf
  have hto : toldF nt q0.2.1 := ⟨q0, hm, rfl⟩
  obtain ⟨β, τ, hβ, hβr, hβf⟩ := ht'
  have hβf : τ q0.2.1 = v' := by
    rcases hβf with ⟨h, -⟩ | ⟨-, h⟩
    · exact absurd rfl (h q0 hm)
    · exact h
  have hw4 := (hl.2 q0 hm).1
  have hwK := hq q0 hm
  obtain ⟨y, hy, -⟩ := fol_le hβ q0.1
  have ga := hβ q0 hm
  have eg : β q0.1 = q0.2.2 - v' := by omega
  rw [eg] at hy
  obtain ⟨yk, yc, yb⟩ := fol_st hl hw4 (g := q0.2.2 - v') (by omega) hy
  have yf : y.2 q0.2.1 = v' := by
    rcases yc q0 hm with e | e
    · omega
    · omega
  refine cnt_le (Rel := fun c c' => ∃ x, fol nt q0.1 (q0.2.2 - v) = some x ∧ ∀ w, w < K → dg c' w = if x.1 w = -1 then dg c w else y.1 w) (10 ^ K) (fun c => dgN c k = b ∧ okA nt q0.2.1 c v') (fun c hc ⟨q1, t, q2, q3⟩ => ?_) (fun a a' c' ha ha' ⟨q1, t, q2, q3⟩ ⟨r1, t', r2, r3⟩ ⟨x, e1, e2⟩ ⟨x', e1', e2'⟩ => ?_)
  · obtain ⟨x, hx, -⟩ := fol_le q2 q0.1
    have gc := q2 q0 hm
    have tf := q3 hto
    have d9 := dg_in c q0.1
    have eg2 : dg c q0.1 = q0.2.2 - v := by omega
    rw [eg2] at hx d9
    obtain ⟨xk, xc, xb⟩ := fol_st hl hw4 (g := q0.2.2 - v) d9 hx
    have xf : x.2 q0.2.1 ≠ -1 := by
      rcases xc q0 hm with e | e <;> omega
    have hs := fol_sh d9.1 (by omega) hx hy
    have hag := mv_ag q2 xc yc hs
    obtain ⟨z, hz, -⟩ := fol_le q2 k
    have dk := dg_in c k
    have xk1 : x.1 k = -1 := by
      refine Classical.byContradiction (fun hn => ?_)
      have h1 := fol_sym hl hw4 (show k < 4 by omega) d9 dk hx hz hn
      obtain ⟨-, zc, -⟩ := fol_st hl (show k < 4 by omega) dk hz
      exact (zc.iff q0 hm).mp h1 (hub _ z dk hz)
    obtain ⟨c', hc', hd⟩ := code_ex hK (b := fun w => if x.1 w = -1 then dg c w else y.1 w) (fun w _ => mv_rg hs yb)
    refine ⟨c', hc', ⟨?_, _, ag_c hq hag hd, fun ht => ?_⟩, x, hx, hd⟩
    · have := hd k hk
      rw [if_pos xk1] at this
      unfold dg at this
      omega
    · rw [if_neg xf]
      exact yf
  · obtain rfl : x = x' := by rw [e1] at e1'; exact Option.some.inj e1'
    have ex : ∀ (a : Nat) (t : Nat → Int), AgA nt (dg a) t → (toldF nt q0.2.1 → t q0.2.1 = v) → ∀ w, x.1 w ≠ -1 → dg a w = x.1 w := by
      intro a t ga ta w hw
      obtain ⟨z, hz, hz2⟩ := fol_le ga q0.1
      have gc := ga q0 hm
      have tf := ta hto
      have : dg a q0.1 = q0.2.2 - v := by omega
      rw [this, e1] at hz
      obtain rfl := Option.some.inj hz
      rcases hz2.1 w with e | e
      · exact absurd e hw
      · exact e.symm
    refine dig_inj hK ha ha' (fun w hw => ?_)
    have g1 := e2 w hw
    have g2 := e2' w hw
    by_cases z : x.1 w = -1
    · rw [if_pos z] at g1 g2
      rw [← g1, ← g2]
    · rw [ex a t q2 q3 w z, ex a' t' r2 r3 w z]
theorem okA_tr {c v : Nat} (hv : v ≤ 20) (h : okA nt f c v) : TrM nt K f v := by
  obtain ⟨t, ha, ht⟩ := h
  refine ⟨dg c, t, ha, fun w _ => dg_in c w, ?_⟩
  by_cases z : toldF nt f
  · exact Or.inr ⟨z, ht z⟩
  · exact Or.inl ⟨fun q hq e => z ⟨q, hq, e⟩, hv⟩
theorem okA_bi {c v : Nat} (h : okA nt f c v) : BiM nt K k (dgN c k) := by
  obtain ⟨t, ha, -⟩ := h
  exact ⟨dg c, t, ha, fun w _ => dg_in c w, rfl⟩
theorem tr_20 {v : Nat} (h : TrM nt K f v) : v ≤ 20 := by
  obtain ⟨b, t, ha, -, ⟨-, e⟩ | ⟨⟨q, hq, e⟩, e2⟩⟩ := h
  · exact e
  · have := ha q hq
    rw [e, e2] at this
    omega
theorem N_eq {b b' v v' : Nat} (hl : NOK nt) (hK : K ≤ 4) (hk : k < K) (hq : ∀ q ∈ nt, q.1 < K) (hub : ∀ (g : Int) x, 0 ≤ g ∧ g ≤ 9 → fol nt k g = some x → x.2 f = -1) (hb : BiM nt K k b) (hb' : BiM nt K k b') (hv : TrM nt K f v) (hv' : TrM nt K f v') : Nn nt K f k b v = Nn nt K f k b' v' := by
  have e1 : Nn nt K f k b v = Nn nt K f k b' v := Nat.le_antisymm (Nb_le hl hK hk hq hub hb') (Nb_le hl hK hk hq hub hb)
  rw [e1]
  by_cases z : toldF nt f
  · obtain ⟨q0, hm, hf⟩ := z
    exact Nat.le_antisymm (Nt_le hl hK hk hq hub hm hf hv') (Nt_le hl hK hk hq hub hm hf hv)
  · unfold Nn
    refine sumN_c _ (fun c _ => ind_c ?_)
    constructor
    · rintro ⟨h1, t, h2, -⟩; exact ⟨h1, t, h2, fun q => absurd q z⟩
    · rintro ⟨h1, t, h2, -⟩; exact ⟨h1, t, h2, fun q => absurd q z⟩
/-- how often a kingdom would tell a number -/
noncomputable def tal (nt : List jN) (K f k n : Nat) : Nat := sumN (fun c => sumN (fun v => ind (okA nt f c v ∧ v + dgN c k = n)) 21) (10 ^ K)
noncomputable def dal (nt : List jN) (K f : Nat) : Nat := sumN (fun c => sumN (fun v => ind (okA nt f c v)) 21) (10 ^ K)
theorem dgN_lt (c k : Nat) : dgN c k < 10 := by unfold dgN; omega
theorem dal_eq : dal nt K f = sumN (fun b => sumN (fun v => Nn nt K f k b v) 21) 10 := by
  have e : ∀ c, sumN (fun v => ind (okA nt f c v)) 21 = sumN (fun b => sumN (fun v => ind (dgN c k = b ∧ okA nt f c v)) 21) 10 := by
    intro c
    rw [sumN_one (p := dgN c k) 10 (dgN_lt c k) (fun b _ hb => sumN_0 21 (fun v _ => ind_0 (fun q => hb q.1.symm)))]
    exact sumN_c 21 (fun v _ => ind_c ⟨fun q => ⟨rfl, q⟩, fun q => q.2⟩)
  unfold dal
  rw [sumN_c _ (fun c _ => e c), sumN_sw]
  refine sumN_c 10 (fun b _ => ?_)
  rw [sumN_sw]
  rfl
theorem tal_eq (n : Nat) : tal nt K f k n = sumN (fun b => ind (b ≤ n ∧ n - b < 21) * Nn nt K f k b (n - b)) 10 := by
  have e : ∀ c, sumN (fun v => ind (okA nt f c v ∧ v + dgN c k = n)) 21 = sumN (fun b => ind (b ≤ n ∧ n - b < 21) * ind (dgN c k = b ∧ okA nt f c (n - b))) 10 := by
    intro c
    rw [sumN_one (p := dgN c k) 10 (dgN_lt c k) (fun b _ hb => by rw [ind_0 (Q := dgN c k = b ∧ okA nt f c (n - b)) (fun q => hb q.1.symm), Nat.mul_zero])]
    by_cases z : dgN c k ≤ n ∧ n - dgN c k < 21
    · rw [ind_1 z, Nat.one_mul, sumN_one (p := n - dgN c k) 21 z.2 (fun v _ hv => ind_0 (fun q => hv (by omega)))]
      exact ind_c ⟨fun q => ⟨rfl, q.1⟩, fun q => ⟨q.2, by omega⟩⟩
    · rw [ind_0 z, Nat.zero_mul]
      exact sumN_0 21 (fun v hv => ind_0 (fun q => z (by omega)))
  unfold tal
  rw [sumN_c _ (fun c _ => e c), sumN_sw]
  refine sumN_c 10 (fun b _ => ?_)
  unfold Nn
  rw [Nat.mul_comm, ← sumN_mul]
  exact sumN_c _ (fun c _ => Nat.mul_comm _ _)
/-- in how many ways a number is made -/
noncomputable def alk (nt : List jN) (K f k n : Nat) : Nat := sumN (fun b => ind (b ≤ n ∧ BiM nt K k b ∧ TrM nt K f (n - b))) 10
theorem unb_eq (hl : NOK nt) (hK : K ≤ 4) (hk : k < K) (hq : ∀ q ∈ nt, q.1 < K) (hub : ∀ (g : Int) x, 0 ≤ g ∧ g ≤ 9 → fol nt k g = some x → x.2 f = -1) {b0 v0 : Nat} (h0 : BiM nt K k b0) (h1 : TrM nt K f v0) (n : Nat) : tal nt K f k n = alk nt K f k n * Nn nt K f k b0 v0 ∧ dal nt K f = (sumN (fun b => ind (BiM nt K k b)) 10 * sumN (fun v => ind (TrM nt K f v)) 21) * Nn nt K f k b0 v0 := by
  have hN : ∀ b v, v ≤ 20 → Nn nt K f k b v = ind (BiM nt K k b ∧ TrM nt K f v) * Nn nt K f k b0 v0 := by
    intro b v hv
    by_cases z : BiM nt K k b ∧ TrM nt K f v
    · rw [ind_1 z, Nat.one_mul]
      exact N_eq hl hK hk hq hub z.1 h0 z.2 h1
    · rw [ind_0 z, Nat.zero_mul]
      unfold Nn
      exact sumN_0 _ (fun c _ => ind_0 (fun q => z ⟨by rw [← q.1]; exact okA_bi q.2, okA_tr hv q.2⟩))
  constructor
  · rw [tal_eq]
    unfold alk
    rw [← sumN_mul]
    refine sumN_c 10 (fun b _ => ?_)
    by_cases z : b ≤ n ∧ n - b < 21
    · rw [ind_1 z, Nat.one_mul, hN b (n - b) (by omega)]
      rw [ind_c (Q := b ≤ n ∧ BiM nt K k b ∧ TrM nt K f (n - b)) (R := BiM nt K k b ∧ TrM nt K f (n - b)) ⟨fun q => q.2, fun q => ⟨z.1, q⟩⟩]
    · rw [ind_0 z, Nat.zero_mul, ind_0 (fun q => z ⟨q.1, by have := tr_20 q.2.2; omega⟩), Nat.zero_mul]
  · rw [dal_eq (k := k), ← sumN_mul]
    rw [← sumN_mul]
    refine sumN_c 10 (fun b _ => ?_)
    rw [sumN_c 21 (fun v hv => hN b v (by omega)), sumN_mul]
    congr 1
    rw [Nat.mul_comm, ← sumN_mul]
    refine sumN_c 21 (fun v _ => ?_)
    rw [ind_and, Nat.mul_comm]
theorem unt_out {k : Nat} {g : Int} {x : fX} (h : fol nt k g = some x) (hn : ¬ toldF nt f) : x.2 f = -1 :=
  (fol_out (A := fun _ => False) (B := fun f' => f' = f) (fun q hq => ⟨fun e => e.elim, fun e => hn ⟨q, hq, e⟩⟩) (fun e => e) h).2 f rfl
theorem bnd_eq (hl : NOK nt) (hK : K ≤ 4) (hk : k < K) {g : Int} {x : fX} (hg : 0 ≤ g ∧ g ≤ 9) (hx : fol nt k g = some x) (hf : x.2 f ≠ -1) : ∃ s, s < 30 ∧ ∀ n, tal nt K f k n = if n = s then dal nt K f else 0 := by
  have hto : toldF nt f := Classical.byContradiction (fun q => hf (unt_out hx q))
  obtain ⟨xk, xc, xb⟩ := fol_st hl (by omega) hg hx
  have b2 := xb.2 f
  have cst : ∀ c v, okA nt f c v → (v : Int) + dgN c k = x.2 f + g := by
    rintro c v ⟨t, ha, ht⟩
    obtain ⟨y, hy, hle⟩ := fol_le ha k
    have d := dg_in c k
    have hs := (fol_sh hg.1 d.1 hx hy).2 f
    have hv := ht hto
    unfold sh2 at hs
    have hl2 := hle.2 f
    have : dg c k = dgN c k := rfl
    omega
  refine ⟨(x.2 f + g).toNat, by omega, fun n => ?_⟩
  unfold tal dal
  by_cases z : n = (x.2 f + g).toNat
  · rw [if_pos z]
    refine sumN_c _ (fun c _ => sumN_c _ (fun v _ => ind_c ⟨fun q => q.1, fun q => ⟨q, ?_⟩⟩))
    have := cst c v q
    omega
  · rw [if_neg z]
    refine sumN_0 _ (fun c _ => sumN_0 _ (fun v _ => ind_0 (fun q => z ?_)))
    have := cst c v q.1
    omega
def mxN (v : Nat → Nat) : Nat → Nat
  | 0 => 0
  | n + 1 => max (mxN v n) (v n)
theorem mxN_c {u v : Nat → Nat} : ∀ n, (∀ i, i < n → u i = v i) → mxN u n = mxN v n
  | 0, _ => rfl
  | n + 1, h => by unfold mxN; rw [mxN_c n (fun i hi => h i (by omega)), h n (by omega)]
theorem mxN_mul (u : Nat → Nat) (a : Nat) : ∀ n, mxN (fun i => u i * a) n = mxN u n * a
  | 0 => by unfold mxN; omega
  | n + 1 => by
    unfold mxN
    rw [mxN_mul u a n]
    rcases Nat.le_total (mxN u n) (u n) with h | h
    · rw [Nat.max_eq_right h, Nat.max_eq_right (Nat.mul_le_mul_right a h)]
    · rw [Nat.max_eq_left h, Nat.max_eq_left (Nat.mul_le_mul_right a h)]
theorem mxN_one {d s : Nat} : ∀ n, mxN (fun i => if i = s then d else 0) n = if s < n then d else 0
  | 0 => rfl
  | n + 1 => by
    unfold mxN
    rw [mxN_one n]
    by_cases z : s < n
    · rw [if_pos z, if_neg (by omega), if_pos (by omega)]; omega
    · rw [if_neg z]
      by_cases y : n = s
      · rw [if_pos y, if_pos (by omega)]; omega
      · rw [if_neg y, if_neg (by omega)]; omega
theorem mxN_le {u : Nat → Nat} {a : Nat} : ∀ n, (∀ i, i < n → u i ≤ a) → mxN u n ≤ a
  | 0, _ => Nat.zero_le _
  | n + 1, h => by
    have := mxN_le n (fun i hi => h i (by omega))
    have := h n (by omega)
    unfold mxN
    omega
/-- left and of stand to each other as the most that would be told to all -/
theorem rat_eq (hl : NOK nt) (hK : K ≤ 4) (hk : k < K) (hq : ∀ q ∈ nt, q.1 < K) {g : Int} {x : fX} (hg : 0 ≤ g ∧ g ≤ 9) (hx : fol nt k g = some x) {b0 v0 : Nat} (h0 : BiM nt K k b0) (h1 : TrM nt K f v0) : (x.2 f ≠ -1 → mxN (tal nt K f k) 30 = dal nt K f) ∧ (x.2 f = -1 → mxN (alk nt K f k) 30 * dal nt K f = mxN (tal nt K f k) 30 * (sumN (fun b => ind (BiM nt K k b)) 10 * sumN (fun v => ind (TrM nt K f v)) 21)) := by
  constructor
  · intro hf
    obtain ⟨s, hs, e⟩ := bnd_eq (f := f) hl hK hk hg hx hf
    rw [mxN_c 30 (fun i _ => e i), mxN_one, if_pos hs]
  · intro hf
    have hub : ∀ (g' : Int) x', 0 ≤ g' ∧ g' ≤ 9 → fol nt k g' = some x' → x'.2 f = -1 := by
      intro g' x' hg' hx'
      have := (fol_sh hg.1 hg'.1 hx hx').2 f
      unfold sh2 at this
      omega
    have e := fun n => unb_eq (f := f) hl hK hk hq hub h0 h1 n
    rw [mxN_c (u := tal nt K f k) (v := fun i => alk nt K f k i * Nn nt K f k b0 v0) 30 (fun i _ => (e i).1), mxN_mul, (e 0).2]
    generalize sumN (fun b => ind (BiM nt K k b)) 10 * sumN (fun v => ind (TrM nt K f v)) 21 = q
    generalize Nn nt K f k b0 v0 = m
    generalize mxN (alk nt K f k) 30 = a
    rw [Nat.mul_comm q m, Nat.mul_assoc]
theorem sumN_pos {u : Nat → Nat} {p : Nat} : ∀ n, p < n → 0 < u p → 0 < sumN u n
  | 0, h, _ => absurd h (by omega)
  | n + 1, h, hp => by
    unfold sumN
    by_cases z : p = n
    · rw [z] at hp; omega
    · have := sumN_pos n (by omega) hp; omega
theorem dal_pos (hK : K ≤ 4) (hq : ∀ q ∈ nt, q.1 < K) {b t : Nat → Int} (ha : AgA nt b t) (hb : ∀ w, w < K → 0 ≤ b w ∧ b w ≤ 9) : 0 < dal nt K f ∧ ∃ v, TrM nt K f v := by
  obtain ⟨c, hc, hd⟩ := code_ex hK hb
  have hag := ag_c hq ha hd
  have hv : ∃ v, v ≤ 20 ∧ okA nt f c v := by
    by_cases z : toldF nt f
    · obtain ⟨q, hqm, e⟩ := z
      have h := ha q hqm
      rw [e] at h
      exact ⟨(t f).toNat, by omega, t, hag, fun _ => by omega⟩
    · exact ⟨0, by decide, t, hag, fun q => absurd q z⟩
  obtain ⟨v, hv, ho⟩ := hv
  refine ⟨?_, v, okA_tr hv ho⟩
  unfold dal
  refine sumN_pos _ hc ?_
  refine sumN_pos (p := v) 21 (by omega) ?_
  rw [ind_1 ho]
  decide
end NC2
