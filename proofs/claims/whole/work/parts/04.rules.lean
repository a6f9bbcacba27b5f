/-! ===== 04 rules: the pieces, one by one, over the machine ===== -/
def kw (w : Cond) : Bool := match w with
  | .arrayClass _ => true
  | .fieldLinkNest .. => true
  | .methodLinkNest .. => true
  | .arrayOver (.object _) => true
  | w => w.onTables && w.keeps
/-- the tables' words, for any arguments -/
def Tb (U : State) : Prop := ∀ w ∈ lw_tbl, kw w = true → ∀ a : Array Value, w.before a U = true
theorem kw_warm {w : Cond} (hw : kw w = true) {s U : State} (hW : s.WarmedH U.vm) (h : ∀ a : Array Value, w.before a s = true) (a : Array Value) : w.before a U = true := by
  have gen : (w.onTables && w.keeps) = true → w.before a U = true := fun h1 => word_at hW (Or.inl h1) (h a)
  cases w with
  | arrayClass ty => exact word_at hW (Or.inr ⟨ty, rfl⟩) (h a)
  | fieldLinkNest b i c n d e => exact va_Nw.use rfl (va_Nw.warmF hW (h #[]))
  | methodLinkNest b i c e => exact va_Nw.use rfl (va_Nw.warmM hW (h #[]))
  | arrayOver ty =>
    cases ty with
    | object C => exact va_AO.use (va_AO.moved hW.alike (va_AO.of (h #[])))
    | _ => exact gen hw
  | _ => exact gen hw
theorem Tb.warm {s U : State} (h : Tb s) (hW : s.WarmedH U.vm) : Tb U := fun w hw hk a => kw_warm hk hW (fun a => h w hw hk a) a
theorem Tb.same {u U : State} (hv : u.vm = U.vm) (h : Tb u) : Tb U := h.warm (by rw [← hv]; exact State.WarmedH.refl u)
-- texts and rows that the launch gives
def jstr : List (String × Nat × String × Nat) := [("LosersBooks$Realm", 33, "abgn", 2), ("LosersBooks$Realm", 102, "wc", 0), ("LosersBooks$Realm", 111, "mbs", 1), ("LosersBooks$LawReader", 98, "mgspwd", 3), ("LosersBooks$LawReader", 57, "=<>", 4), ("LosersBooks$Campaign", 44, "yhat", 5), ("LosersBooksModel", 26, "y", 6), ("LosersBooksModel", 32, "mgspwd", 3), ("LosersBooksModel", 247, "wc", 0), ("LosersBooksModel", 253, "mbs", 1), ("LosersBooksModel", 255, "abgn", 2), ("LosersBooksModel", 263, "yhat", 5)]
def jlen : List Nat := [2, 3, 4, 6, 3, 4, 1]
def jbys : List (List Int32) := [[119, 99], [109, 98, 115], [97, 98, 103, 110], [109, 103, 115, 112, 119, 100], [61, 60, 62], [121, 104, 97, 116], [121]]
def jbdl : Nat → Nat := fun j => match j with | 0 => 2 | 1 => 3 | _ => 4
def jbnd : Nat → Nat → Int := fun j o => match j with
  | 0 => (match o with | 0 => 9 | _ => 99)
  | 1 => (match o with | 0 => 30 | _ => 9)
  | _ => (match o with | 0 => 3 | 1 => 3 | 2 => 9 | _ => 20)
def jbns : Nat → String := fun j => match j with | 0 => "RULE_BOUNDS" | 1 => "KINGDOM_BOUNDS" | _ => "FIELD_BOUNDS"
def Rom (B : jB) (U : State) : Prop := (∀ q ∈ jstr, vk_R q.1 q.2.1 q.2.2.1 (B.1 90 q.2.2.2) U) ∧ vk_S 7 jlen jbys (B.1 90) (B.1 93) (sysA B) U U.heap ∧
  (∀ j, j < 3 → va_Z "LosersBooks$Realm" (jbns j) "[I" (.ref (B.1 91 j)) (sysA B) U U.heap ∧ va_T .int (B.1 91 j) (jbdl j) (fun o => .int (Int32.ofInt (jbnd j o))) (sysA B) U U.heap) ∧
  va_Z "java/lang/String" "COMPACT_STRINGS" "Z" (.int 1) (sysA B) U U.heap ∧
  ∃ r : Option Nat, (∀ i, r = some i → i = 0) ∧ va_Z "jdk/internal/util/Preconditions" "SIOOBE_FORMATTER" "Ljava/util/function/BiFunction;" (vr B.1 (.inr (.inr (94, r)))) (sysA B) U U.heap
theorem Rom.call {B : jB} {s U : State} {H : Heap} {locs : List Loc} (h : Rom B s) (hS : va_S (sysA B) s.heap H locs) (hW : s.WarmedH U.vm) (hU : U.heap = H) : Rom B U := by
  obtain ⟨h1, h2, h3, h4, r, h5, h6⟩ := h
  have hq : ∀ a : Nat, a < s.heap.size → ¬ sysA B a → U.heap[a]? = s.heap[a]? := fun a ha hn => by rw [hU]; exact hS.2.1 a ha hn
  exact ⟨fun q hq => vk_R.warm hW (h1 q hq), vk_S.moved hW.alike (h2.kept hq), fun j hj => ⟨va_Z.moved hW.alike ((h3 j hj).1.kept hq), va_T.moved hW.alike ((h3 j hj).2.kept hq)⟩, va_Z.moved hW.alike (h4.kept hq), r, h5, va_Z.moved hW.alike (h6.kept hq)⟩
/-- where a method's body stands: the machine, its room and end; the things; how many words of locals -/
abbrev jX : Type := Program × Launch × Env × Room × State × MethodId × Array Value × List Frame × Method × Code × (State → Prop) × Nat × Nat × jB × Nat
def AtX (X : jX) (pc : Nat) (ls : jL) (st : List jV) (σ : jM) : Prop := match X with
  | (p, l, e, R, s, m, args, below, meth, c, Q, cells, slots, B, nL) => ∀ (H : Heap) (locs : List Loc) (rls : Array Slot), Rp B σ H → va_S (sysA B) s.heap H locs → lv_has rls nL (lmp B.1 0 ls) → okM B.2.1 σ → oks B.2.1 st → okl B.2.1 ls → W p l e R s m args below meth c H locs cells slots Q (F0 m pc rls (st.map (vr B.1)))
def Cx (X : jX) (own : String) (cc : ByteArray) (N : Nat) : Prop := match X with
  | (p, l, e, R, s, m, args, below, meth, c, Q, cells, slots, B, nL) => p.tables.exec = Jvm.exec ∧ c.code = cc ∧ c.maxLocals = nL ∧ nL = N ∧ s.vm.findClass own = some m.cls ∧ Tb s ∧ va_K B.2.2.1 jcl (jtys B) s ∧ B.2.2.2.2 ≤ s.heap.size ∧ meth.locks = false ∧ Rom B s ∧ clo B
def Sn (X : jX) (pc : Nat) (w : jWp) : Prop := ∀ ls st σ, w ls st σ → AtX X pc ls st σ
-- constants, locals, the pile
def c_ic (n : Int) (k : jWp) : jWp := fun ls st σ => k ls (.inl n :: st) σ
def c_lc (n : Int) (k : jWp) : jWp := fun ls st σ => k ls (.inr (.inl n) :: st) σ
def c_nul (k : jWp) : jWp := fun ls st σ => k ls (.inr (.inr (0, none)) :: st) σ
def c_il (i : Nat) (k : jWp) : jWp := fun ls st σ => match lget ls i with
  | some (.inl x) => k ls (.inl x :: st) σ
  | _ => False
def c_ll (i : Nat) (k : jWp) : jWp := fun ls st σ => match lget ls i with
  | some (.inr (.inl x)) => k ls (.inr (.inl x) :: st) σ
  | _ => False
def c_al (i : Nat) (k : jWp) : jWp := fun ls st σ => match lget ls i with
  | some (.inr (.inr r)) => k ls (.inr (.inr r) :: st) σ
  | _ => False
def c_is (i : Nat) (k : jWp) : jWp := fun ls st σ => match st with
  | .inl x :: st => k (lput ls i (.inl x)) st σ
  | _ => False
def c_ls (i : Nat) (k : jWp) : jWp := fun ls st σ => match st with
  | .inr (.inl x) :: st => k (lkill (lput ls i (.inr (.inl x))) (i + 1)) st σ
  | _ => False
def c_as (i : Nat) (k : jWp) : jWp := fun ls st σ => match st with
  | .inr (.inr r) :: st => k (lput ls i (.inr (.inr r))) st σ
  | _ => False
def c_inc (i : Nat) (n : Int) (k : jWp) : jWp := fun ls st σ => match lget ls i with
  | some (.inl x) => k (lput ls i (.inl (wr (x + n)))) st σ
  | _ => False
def c_b2 (f : Int → Int → Int) (k : jWp) : jWp := fun ls st σ => match st with
  | .inl y :: .inl x :: st => k ls (.inl (f x y) :: st) σ
  | _ => False
def c_b2n (f : Int → Int → Int) (k : jWp) : jWp := fun ls st σ => match st with
  | .inl y :: .inl x :: st => y ≠ 0 ∧ k ls (.inl (f x y) :: st) σ
  | _ => False
def c_b1 (f : Int → Int) (k : jWp) : jWp := fun ls st σ => match st with
  | .inl x :: st => k ls (.inl (f x) :: st) σ
  | _ => False
def c_d2 (f : Int → Int → Int) (k : jWp) : jWp := fun ls st σ => match st with
  | .inr (.inl y) :: .inr (.inl x) :: st => k ls (.inr (.inl (f x y)) :: st) σ
  | _ => False
def c_d2n (f : Int → Int → Int) (k : jWp) : jWp := fun ls st σ => match st with
  | .inr (.inl y) :: .inr (.inl x) :: st => y ≠ 0 ∧ k ls (.inr (.inl (f x y)) :: st) σ
  | _ => False
def c_dsh (f : Int → Int → Int) (k : jWp) : jWp := fun ls st σ => match st with
  | .inl y :: .inr (.inl x) :: st => k ls (.inr (.inl (f x y)) :: st) σ
  | _ => False
def c_i2l (k : jWp) : jWp := fun ls st σ => match st with
  | .inl x :: st => k ls (.inr (.inl x) :: st) σ
  | _ => False
def c_l2i (k : jWp) : jWp := fun ls st σ => match st with
  | .inr (.inl x) :: st => k ls (.inl (wr x) :: st) σ
  | _ => False
def lcm3 (x y : Int) : Int := if y < x then 1 else if x = y then 0 else -1
def c_lcm (k : jWp) : jWp := fun ls st σ => match st with
  | .inr (.inl y) :: .inr (.inl x) :: st => k ls (.inl (lcm3 x y) :: st) σ
  | _ => False
def c_dup (k : jWp) : jWp := fun ls st σ => match st with
  | .inl x :: st => k ls (.inl x :: .inl x :: st) σ
  | .inr (.inr r) :: st => k ls (.inr (.inr r) :: .inr (.inr r) :: st) σ
  | _ => False
def c_dup2 (k : jWp) : jWp := fun ls st σ => match st with
  | .inl x :: .inr (.inr r) :: st => k ls (.inl x :: .inr (.inr r) :: .inl x :: .inr (.inr r) :: st) σ
  | _ => False
def c_pop (k : jWp) : jWp := fun ls st σ => match st with
  | .inl _ :: st => k ls st σ
  | .inr (.inr _) :: st => k ls st σ
  | _ => False
-- branches
def c_j1 (P : Int → Prop) (t k : jWp) : jWp := fun ls st σ => match st with
  | .inl x :: st => (P x → t ls st σ) ∧ (¬ P x → k ls st σ)
  | _ => False
def c_j2 (P : Int → Int → Prop) (t k : jWp) : jWp := fun ls st σ => match st with
  | .inl y :: .inl x :: st => (P x y → t ls st σ) ∧ (¬ P x y → k ls st σ)
  | _ => False
def c_jn (t k : jWp) : jWp := fun ls st σ => match st with
  | .inr (.inr (_, none)) :: st => t ls st σ
  | .inr (.inr (_, some _)) :: st => k ls st σ
  | _ => False
def c_sw0 : List (Int × jWp) → jWp → Int → jWp
  | [], d, _ => d
  | (v, t) :: r, d, x => fun ls st σ => (x = v → t ls st σ) ∧ (x ≠ v → c_sw0 r d x ls st σ)
def c_sw (cs : List (Int × jWp)) (d : jWp) : jWp := fun ls st σ => match st with
  | .inl x :: st => c_sw0 cs d x ls st σ
  | _ => False
section R1
variable {X : jX} {own : String} {cc : ByteArray} {N pc : Nat} {k : jWp}
theorem r_ic {n : Int} (h : Cx X own cc N) (hd : decode cc pc = .ok (.iconst n, 1)) (hn : inR n) (hk : Sn X (pc + 1) k) : Sn X pc (c_ic n k) := by
  obtain ⟨p, l, e, R, s, m, args, below, meth, c, Q, cells, slots, B, nL⟩ := X
  obtain ⟨hx, hb, -⟩ := h
  intro ls st σ hw H locs rls hP hS hl hM hs hL
  exact lv_iconst hx hb hd rfl (hk ls _ σ hw H locs rls hP hS hl hM (oks_cons hn hs) hL)
theorem r_bi {n : Int} (h : Cx X own cc N) (hd : decode cc pc = .ok (.bipush n, 2)) (hv : (Int8.ofInt n).toInt32 = Int32.ofInt n) (hn : inR n) (hk : Sn X (pc + 2) k) : Sn X pc (c_ic n k) := by
  obtain ⟨p, l, e, R, s, m, args, below, meth, c, Q, cells, slots, B, nL⟩ := X
  obtain ⟨hx, hb, -⟩ := h
  intro ls st σ hw H locs rls hP hS hl hM hs hL
  exact lv_bipush hx hb hd hv (hk ls _ σ hw H locs rls hP hS hl hM (oks_cons hn hs) hL)
theorem r_si {n : Int} (h : Cx X own cc N) (hd : decode cc pc = .ok (.sipush n, 3)) (hv : (Int16.ofInt n).toInt32 = Int32.ofInt n) (hn : inR n) (hk : Sn X (pc + 3) k) : Sn X pc (c_ic n k) := by
  obtain ⟨p, l, e, R, s, m, args, below, meth, c, Q, cells, slots, B, nL⟩ := X
  obtain ⟨hx, hb, -⟩ := h
  intro ls st σ hw H locs rls hP hS hl hM hs hL
  exact lv_sipush hx hb hd hv (hk ls _ σ hw H locs rls hP hS hl hM (oks_cons hn hs) hL)
theorem r_ldc {n : Int} {ix : Nat} (h : Cx X own cc N) (hw0 : Cond.constant own ix (Int32.ofInt n) ∈ lw_tbl) (hd : decode cc pc = .ok (.ldc ix, 2)) (hn : inR n) (hk : Sn X (pc + 2) k) : Sn X pc (c_ic n k) := by
  obtain ⟨p, l, e, R, s, m, args, below, meth, c, Q, cells, slots, B, nL⟩ := X
  obtain ⟨hx, hb, -, -, ho, hT, -⟩ := h
  intro ls st σ hw H locs rls hP hS hl hM hs hL
  exact lv_ldc hx hb ho (hT _ hw0 rfl _) hd (hk ls _ σ hw H locs rls hP hS hl hM (oks_cons hn hs) hL)
theorem r_ldcw {n : Int} {ix : Nat} (h : Cx X own cc N) (hw0 : Cond.constant own ix (Int32.ofInt n) ∈ lw_tbl) (hd : decode cc pc = .ok (.ldc_w ix, 3)) (hn : inR n) (hk : Sn X (pc + 3) k) : Sn X pc (c_ic n k) := by
  obtain ⟨p, l, e, R, s, m, args, below, meth, c, Q, cells, slots, B, nL⟩ := X
  obtain ⟨hx, hb, -, -, ho, hT, -⟩ := h
  intro ls st σ hw H locs rls hP hS hl hM hs hL
  exact lv_ldcw hx hb ho (hT _ hw0 rfl _) hd (hk ls _ σ hw H locs rls hP hS hl hM (oks_cons hn hs) hL)
theorem r_ldc2 {n : Int} {ix : Nat} (h : Cx X own cc N) (hw0 : Cond.constantLong own ix (Int64.ofInt n) ∈ lw_tbl) (hd : decode cc pc = .ok (.ldc2_w ix, 3)) (hn : inL n) (hk : Sn X (pc + 3) k) : Sn X pc (c_lc n k) := by
  obtain ⟨p, l, e, R, s, m, args, below, meth, c, Q, cells, slots, B, nL⟩ := X
  obtain ⟨hx, hb, -, -, ho, hT, -⟩ := h
  intro ls st σ hw H locs rls hP hS hl hM hs hL
  exact lv_ldc2 hx hb ho (hT _ hw0 rfl _) hd (hk ls _ σ hw H locs rls hP hS hl hM (oks_cons hn hs) hL)
theorem r_lc {n : Fin 2} {v : Int} (h : Cx X own cc N) (hd : decode cc pc = .ok (.lconst n, 1)) (hv : Int64.ofNat (n : Nat) = Int64.ofInt v) (hn : inL v) (hk : Sn X (pc + 1) k) : Sn X pc (c_lc v k) := by
  obtain ⟨p, l, e, R, s, m, args, below, meth, c, Q, cells, slots, B, nL⟩ := X
  obtain ⟨hx, hb, -⟩ := h
  intro ls st σ hw H locs rls hP hS hl hM hs hL
  exact lv_lconst hx hb hd hv (hk ls _ σ hw H locs rls hP hS hl hM (oks_cons hn hs) hL)
theorem r_nul (h : Cx X own cc N) (hd : decode cc pc = .ok (.aconst_null, 1)) (hk : Sn X (pc + 1) k) : Sn X pc (c_nul k) := by
  obtain ⟨p, l, e, R, s, m, args, below, meth, c, Q, cells, slots, B, nL⟩ := X
  obtain ⟨hx, hb, -⟩ := h
  intro ls st σ hw H locs rls hP hS hl hM hs hL
  exact lv_null hx hb hd (hk ls _ σ hw H locs rls hP hS hl hM (oks_cons trivial hs) hL)
theorem lmp_at {al : Nat → Nat → Nat} {rls : Array Slot} {nL i : Nat} {ls : jL} {v : jV} (hl : lv_has rls nL (lmp al 0 ls)) (hv : lget ls i = some v) : rls[i]? = some (.val (vr al v)) := by
  have := hl.2.2 _ (lmp_get (al := al) ls 0 i v hv)
  simpa using this
theorem r_il0 {n : Fin 4} {i : Nat} (h : Cx X own cc N) (hd : decode cc pc = .ok (.iload_n n, 1)) (hi : (n : Nat) = i) (hk : Sn X (pc + 1) k) : Sn X pc (c_il i k) := by
  obtain ⟨p, l, e, R, s, m, args, below, meth, c, Q, cells, slots, B, nL⟩ := X
  obtain ⟨hx, hb, -⟩ := h
  intro ls st σ hw H locs rls hP hS hl hM hs hL
  unfold c_il at hw
  split at hw
  · rename_i x hg
    exact lv_iload_n hx hb hd hi (lmp_at hl hg) (hk ls _ σ hw H locs rls hP hS hl hM (oks_cons (okl_get ls i _ hL hg) hs) hL)
  · exact hw.elim
theorem r_il {i : Nat} (h : Cx X own cc N) (hd : decode cc pc = .ok (.iload i, 2)) (hk : Sn X (pc + 2) k) : Sn X pc (c_il i k) := by
  obtain ⟨p, l, e, R, s, m, args, below, meth, c, Q, cells, slots, B, nL⟩ := X
  obtain ⟨hx, hb, -⟩ := h
  intro ls st σ hw H locs rls hP hS hl hM hs hL
  unfold c_il at hw
  split at hw
  · rename_i x hg
    exact lv_iload hx hb hd (lmp_at hl hg) (hk ls _ σ hw H locs rls hP hS hl hM (oks_cons (okl_get ls i _ hL hg) hs) hL)
  · exact hw.elim
theorem r_ll0 {n : Fin 4} {i : Nat} (h : Cx X own cc N) (hd : decode cc pc = .ok (.lload_n n, 1)) (hi : (n : Nat) = i) (hk : Sn X (pc + 1) k) : Sn X pc (c_ll i k) := by
  obtain ⟨p, l, e, R, s, m, args, below, meth, c, Q, cells, slots, B, nL⟩ := X
  obtain ⟨hx, hb, -⟩ := h
  intro ls st σ hw H locs rls hP hS hl hM hs hL
  unfold c_ll at hw
  split at hw
  · rename_i x hg
    exact lv_lload_n hx hb hd hi (lmp_at hl hg) (hk ls _ σ hw H locs rls hP hS hl hM (oks_cons (okl_get ls i _ hL hg) hs) hL)
  · exact hw.elim
theorem r_ll {i : Nat} (h : Cx X own cc N) (hd : decode cc pc = .ok (.lload i, 2)) (hk : Sn X (pc + 2) k) : Sn X pc (c_ll i k) := by
  obtain ⟨p, l, e, R, s, m, args, below, meth, c, Q, cells, slots, B, nL⟩ := X
  obtain ⟨hx, hb, -⟩ := h
  intro ls st σ hw H locs rls hP hS hl hM hs hL
  unfold c_ll at hw
  split at hw
  · rename_i x hg
    exact lv_lload hx hb hd (lmp_at hl hg) (hk ls _ σ hw H locs rls hP hS hl hM (oks_cons (okl_get ls i _ hL hg) hs) hL)
  · exact hw.elim
theorem r_al0 {n : Fin 4} {i : Nat} (h : Cx X own cc N) (hd : decode cc pc = .ok (.aload_n n, 1)) (hi : (n : Nat) = i) (hk : Sn X (pc + 1) k) : Sn X pc (c_al i k) := by
  obtain ⟨p, l, e, R, s, m, args, below, meth, c, Q, cells, slots, B, nL⟩ := X
  obtain ⟨hx, hb, -⟩ := h
  intro ls st σ hw H locs rls hP hS hl hM hs hL
  unfold c_al at hw
  split at hw
  · rename_i r hg
    have kk := hk ls _ σ hw H locs rls hP hS hl hM (oks_cons (okl_get ls i _ hL hg) hs) hL
    obtain ⟨kd, _ | j⟩ := r
    · exact lv_aload_nN hx hb hd hi (lmp_at hl hg) kk
    · exact lv_aload_n hx hb hd hi (lmp_at hl hg) kk
  · exact hw.elim
theorem r_al {i : Nat} (h : Cx X own cc N) (hd : decode cc pc = .ok (.aload i, 2)) (hk : Sn X (pc + 2) k) : Sn X pc (c_al i k) := by
  obtain ⟨p, l, e, R, s, m, args, below, meth, c, Q, cells, slots, B, nL⟩ := X
  obtain ⟨hx, hb, -⟩ := h
  intro ls st σ hw H locs rls hP hS hl hM hs hL
  unfold c_al at hw
  split at hw
  · rename_i r hg
    have kk := hk ls _ σ hw H locs rls hP hS hl hM (oks_cons (okl_get ls i _ hL hg) hs) hL
    obtain ⟨kd, _ | j⟩ := r
    · exact lv_aloadN hx hb hd (lmp_at hl hg) kk
    · exact lv_aload hx hb hd (lmp_at hl hg) kk
  · exact hw.elim
theorem lmp_st {al : Nat → Nat → Nat} {rls : Array Slot} {nL i : Nat} {ls : jL} {v : jV} (h : lv_has rls nL ((i, vr al v) :: (lmp al 0 ls).filter (fun q => !(q.1 == i) && !(q.1 + 1 == i && q.2.category == 2)))) : lv_has rls nL (lmp al 0 (lput ls i v)) := by
  refine lv_less h (fun q hq => ?_)
  rcases lmp_put ls 0 i v q hq with rfl | ⟨h1, h2, h3⟩
  · simp
  · refine List.mem_cons_of_mem _ (List.mem_filter.mpr ⟨h1, ?_⟩)
    simp only [Nat.zero_add] at h2 h3
    simp only [Bool.and_eq_true, Bool.not_eq_true', beq_eq_false_iff_ne, ne_eq, Bool.and_eq_false_iff]
    refine ⟨h2, ?_⟩
    by_cases e : q.1 + 1 = i
    · exact Or.inr (fun z => h3 ⟨e, z⟩)
    · exact Or.inl e
theorem lmp_st2 {al : Nat → Nat → Nat} {rls : Array Slot} {nL i : Nat} {ls : jL} {v : jV} (h : lv_has rls nL ((i, vr al v) :: (lmp al 0 ls).filter (fun q => !(q.1 == i) && (!(q.1 == i + 1) && !(q.1 + 1 == i && q.2.category == 2))))) : lv_has rls nL (lmp al 0 (lkill (lput ls i v) (i + 1))) := by
  refine lv_less h (fun q hq => ?_)
  obtain ⟨hq, hne⟩ := lmp_kill _ 0 (i + 1) q hq
  rcases lmp_put ls 0 i v q hq with rfl | ⟨h1, h2, h3⟩
  · simp
  · refine List.mem_cons_of_mem _ (List.mem_filter.mpr ⟨h1, ?_⟩)
    simp only [Nat.zero_add] at h2 h3 hne
    simp only [Bool.and_eq_true, Bool.not_eq_true', beq_eq_false_iff_ne, ne_eq, Bool.and_eq_false_iff]
    refine ⟨h2, hne, ?_⟩
    by_cases e : q.1 + 1 = i
    · exact Or.inr (fun z => h3 ⟨e, z⟩)
    · exact Or.inl e
theorem r_is0 {n : Fin 4} {i : Nat} (h : Cx X own cc N) (hd : decode cc pc = .ok (.istore_n n, 1)) (hi : (n : Nat) = i) (hn : i < N) (hk : Sn X (pc + 1) k) : Sn X pc (c_is i k) := by
  obtain ⟨p, l, e, R, s, m, args, below, meth, c, Q, cells, slots, B, nL⟩ := X
  obtain ⟨hx, hb, -, hN, -⟩ := h
  intro ls st σ hw H locs rls hP hS hl hM hs hL
  rcases st with _ | ⟨x | x | x, st⟩
  · exact hw.elim
  · exact lv_istore_n hx hb hd hi hl (by rw [hN]; exact hn) rfl (fun rls hl => hk _ _ σ hw H locs rls hP hS (lmp_st hl) hM (oks_tl hs) (okl_put ls i _ hL (oks_hd hs)))
  · exact hw.elim
  · exact hw.elim
theorem r_is {i : Nat} (h : Cx X own cc N) (hd : decode cc pc = .ok (.istore i, 2)) (hn : i < N) (hk : Sn X (pc + 2) k) : Sn X pc (c_is i k) := by
  obtain ⟨p, l, e, R, s, m, args, below, meth, c, Q, cells, slots, B, nL⟩ := X
  obtain ⟨hx, hb, -, hN, -⟩ := h
  intro ls st σ hw H locs rls hP hS hl hM hs hL
  rcases st with _ | ⟨x | x | x, st⟩
  · exact hw.elim
  · exact lv_istore hx hb hd hl (by rw [hN]; exact hn) rfl (fun rls hl => hk _ _ σ hw H locs rls hP hS (lmp_st hl) hM (oks_tl hs) (okl_put ls i _ hL (oks_hd hs)))
  · exact hw.elim
  · exact hw.elim
theorem r_ls0 {n : Fin 4} {i : Nat} (h : Cx X own cc N) (hd : decode cc pc = .ok (.lstore_n n, 1)) (hi : (n : Nat) = i) (hn : i + 1 < N) (hk : Sn X (pc + 1) k) : Sn X pc (c_ls i k) := by
  obtain ⟨p, l, e, R, s, m, args, below, meth, c, Q, cells, slots, B, nL⟩ := X
  obtain ⟨hx, hb, -, hN, -⟩ := h
  intro ls st σ hw H locs rls hP hS hl hM hs hL
  rcases st with _ | ⟨x | x | x, st⟩
  · exact hw.elim
  · exact hw.elim
  · exact lv_lstore_n hx hb hd hi hl (by rw [hN]; exact hn) rfl (fun rls hl => hk _ _ σ hw H locs rls hP hS (lmp_st2 hl) hM (oks_tl hs) (okl_kill _ _ (okl_put ls i _ hL (oks_hd hs))))
  · exact hw.elim
theorem r_ls {i : Nat} (h : Cx X own cc N) (hd : decode cc pc = .ok (.lstore i, 2)) (hn : i + 1 < N) (hk : Sn X (pc + 2) k) : Sn X pc (c_ls i k) := by
  obtain ⟨p, l, e, R, s, m, args, below, meth, c, Q, cells, slots, B, nL⟩ := X
  obtain ⟨hx, hb, -, hN, -⟩ := h
  intro ls st σ hw H locs rls hP hS hl hM hs hL
  rcases st with _ | ⟨x | x | x, st⟩
  · exact hw.elim
  · exact hw.elim
  · exact lv_lstore hx hb hd hl (by rw [hN]; exact hn) rfl (fun rls hl => hk _ _ σ hw H locs rls hP hS (lmp_st2 hl) hM (oks_tl hs) (okl_kill _ _ (okl_put ls i _ hL (oks_hd hs))))
  · exact hw.elim
theorem r_as0 {n : Fin 4} {i : Nat} (h : Cx X own cc N) (hd : decode cc pc = .ok (.astore_n n, 1)) (hi : (n : Nat) = i) (hn : i < N) (hk : Sn X (pc + 1) k) : Sn X pc (c_as i k) := by
  obtain ⟨p, l, e, R, s, m, args, below, meth, c, Q, cells, slots, B, nL⟩ := X
  obtain ⟨hx, hb, -, hN, -⟩ := h
  intro ls st σ hw H locs rls hP hS hl hM hs hL
  rcases st with _ | ⟨x | x | ⟨kd, _ | j⟩, st⟩
  · exact hw.elim
  · exact hw.elim
  · exact hw.elim
  · exact lv_astore_nN hx hb hd hi hl (by rw [hN]; exact hn) rfl (fun rls hl => hk _ _ σ hw H locs rls hP hS (lmp_st (v := .inr (.inr (kd, none))) hl) hM (oks_tl hs) (okl_put ls i _ hL (oks_hd hs)))
  · exact lv_astore_n hx hb hd hi hl (by rw [hN]; exact hn) rfl (fun rls hl => hk _ _ σ hw H locs rls hP hS (lmp_st (v := .inr (.inr (kd, some j))) hl) hM (oks_tl hs) (okl_put ls i _ hL (oks_hd hs)))
theorem r_as {i : Nat} (h : Cx X own cc N) (hd : decode cc pc = .ok (.astore i, 2)) (hn : i < N) (hk : Sn X (pc + 2) k) : Sn X pc (c_as i k) := by
  obtain ⟨p, l, e, R, s, m, args, below, meth, c, Q, cells, slots, B, nL⟩ := X
  obtain ⟨hx, hb, -, hN, -⟩ := h
  intro ls st σ hw H locs rls hP hS hl hM hs hL
  rcases st with _ | ⟨x | x | ⟨kd, _ | j⟩, st⟩
  · exact hw.elim
  · exact hw.elim
  · exact hw.elim
  · exact lv_astoreN hx hb hd hl (by rw [hN]; exact hn) rfl (fun rls hl => hk _ _ σ hw H locs rls hP hS (lmp_st (v := .inr (.inr (kd, none))) hl) hM (oks_tl hs) (okl_put ls i _ hL (oks_hd hs)))
  · exact lv_astore hx hb hd hl (by rw [hN]; exact hn) rfl (fun rls hl => hk _ _ σ hw H locs rls hP hS (lmp_st (v := .inr (.inr (kd, some j))) hl) hM (oks_tl hs) (okl_put ls i _ hL (oks_hd hs)))
theorem r_inc {i : Nat} {n : Int} (h : Cx X own cc N) (hd : decode cc pc = .ok (.iinc i n, 3)) (hn : i < N) (hk : Sn X (pc + 3) k) : Sn X pc (c_inc i n k) := by
  obtain ⟨p, l, e, R, s, m, args, below, meth, c, Q, cells, slots, B, nL⟩ := X
  obtain ⟨hx, hb, -, hN, -⟩ := h
  intro ls st σ hw H locs rls hP hS hl hM hs hL
  unfold c_inc at hw
  split at hw
  · rename_i x hg
    have hmem : (i, Value.int (Int32.ofInt x)) ∈ lmp B.1 0 ls := by have := lmp_get (al := B.1) ls 0 i _ hg; rw [Nat.zero_add] at this; exact this
    obtain ⟨kp, hkp⟩ := List.getElem?_of_mem hmem
    exact lv_iinc hx hb hd hl hkp (v := Int32.ofInt (wr (x + n))) (by rw [of_wr, Int32.ofInt_add]) (by rw [hN]; exact hn) rfl (fun rls hl => hk _ _ σ hw H locs rls hP hS (lmp_st (v := .inl (wr (x + n))) hl) hM hs (okl_put ls i _ hL (wr_in _)))
  · exact hw.elim
end R1
