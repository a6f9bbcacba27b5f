/-! ===== 01 base: numbers, values, memories, the pieces of code as transformers of what must hold ===== -/
/-- an int of the machine is an Int in its range; what a sum leaves of a whole number -/
def wr (x : Int) : Int := (Int32.ofInt x).toInt
def wl (x : Int) : Int := (Int64.ofInt x).toInt
abbrev inR (x : Int) : Prop := -2147483648 ≤ x ∧ x < 2147483648
abbrev inL (x : Int) : Prop := -9223372036854775808 ≤ x ∧ x < 9223372036854775808
theorem wr_id {x : Int} (h : -2147483648 ≤ x) (h2 : x < 2147483648) : wr x = x := Int32.toInt_ofInt_of_le (by omega) (by omega)
theorem wl_id {x : Int} (h : -9223372036854775808 ≤ x) (h2 : x < 9223372036854775808) : wl x = x := Int64.toInt_ofInt_of_le (by omega) (by omega)
theorem wr_in (x : Int) : inR (wr x) := ⟨by have := Int32.le_toInt (Int32.ofInt x); simpa [wr] using this, by have := Int32.toInt_lt (Int32.ofInt x); simpa [wr] using this⟩
theorem wl_in (x : Int) : inL (wl x) := ⟨by have := Int64.le_toInt (Int64.ofInt x); simpa [wl] using this, by have := Int64.toInt_lt (Int64.ofInt x); simpa [wl] using this⟩
theorem t32_in (x : Int32) : inR x.toInt := ⟨by have := Int32.le_toInt x; simpa using this, by have := Int32.toInt_lt x; simpa using this⟩
theorem t64_in (x : Int64) : inL x.toInt := ⟨by have := Int64.le_toInt x; simpa using this, by have := Int64.toInt_lt x; simpa using this⟩
theorem of_wr (x : Int) : Int32.ofInt (wr x) = Int32.ofInt x := Int32.ofInt_toInt _
theorem of_wl (x : Int) : Int64.ofInt (wl x) = Int64.ofInt x := Int64.ofInt_toInt _
theorem of_lt {x y : Int} (hx : inR x) (hy : inR y) : Int32.ofInt x < Int32.ofInt y ↔ x < y := by
  rw [Int32.lt_iff_toInt_lt]; show wr x < wr y ↔ _; rw [wr_id hx.1 hx.2, wr_id hy.1 hy.2]
theorem of_le {x y : Int} (hx : inR x) (hy : inR y) : Int32.ofInt x ≤ Int32.ofInt y ↔ x ≤ y := by
  rw [Int32.le_iff_toInt_le]; show wr x ≤ wr y ↔ _; rw [wr_id hx.1 hx.2, wr_id hy.1 hy.2]
theorem of_eq {x y : Int} (hx : inR x) (hy : inR y) : Int32.ofInt x = Int32.ofInt y ↔ x = y := by
  rw [← Int32.toInt_inj]; show wr x = wr y ↔ _; rw [wr_id hx.1 hx.2, wr_id hy.1 hy.2]
theorem of_lt64 {x y : Int} (hx : inL x) (hy : inL y) : Int64.ofInt x < Int64.ofInt y ↔ x < y := by
  rw [Int64.lt_iff_toInt_lt]; show wl x < wl y ↔ _; rw [wl_id hx.1 hx.2, wl_id hy.1 hy.2]
theorem of_eq64 {x y : Int} (hx : inL x) (hy : inL y) : Int64.ofInt x = Int64.ofInt y ↔ x = y := by
  rw [← Int64.toInt_inj]; show wl x = wl y ↔ _; rw [wl_id hx.1 hx.2, wl_id hy.1 hy.2]
/-- a value: an int, a long, or a reference (its kind; its number among its kind, or null) -/
abbrev jV : Type := Int ⊕ (Int ⊕ (Nat × Option Nat))
/-- a memory: ints, longs, changing references, by kind, number, place -/
abbrev jM : Type := (Nat → Nat → Nat → Int) × (Nat → Nat → Nat → Int) × (Nat → Nat → Nat → Option Nat)
abbrev jL : Type := List (Option jV)
abbrev jWp : Type := jL → List jV → jM → Prop
def sI (σ : jM) (k j o : Nat) (v : Int) : jM := (fun k' j' o' => if k' = k ∧ j' = j ∧ o' = o then v else σ.1 k' j' o', σ.2.1, σ.2.2)
def sL (σ : jM) (k j o : Nat) (v : Int) : jM := (σ.1, fun k' j' o' => if k' = k ∧ j' = j ∧ o' = o then v else σ.2.1 k' j' o', σ.2.2)
def sR (σ : jM) (k j o : Nat) (v : Option Nat) : jM := (σ.1, σ.2.1, fun k' j' o' => if k' = k ∧ j' = j ∧ o' = o then v else σ.2.2 k' j' o')
/-- a stretch of a row of ints written anew -/
def sA (σ : jM) (k j : Nat) (f : Nat → Int) : jM := (fun k' j' o' => if k' = k ∧ j' = j then f o' else σ.1 k' j' o', σ.2.1, σ.2.2)
/-- a thing that is there: made, or given by the launch (texts 90, rows of bounds 91, the script 92, the texts' bytes 93) -/
def okr (D : List (Nat × Nat)) (k j : Nat) : Prop := (k, j) ∈ D ∨ (k = 90 ∧ j < 7) ∨ (k = 91 ∧ j < 3) ∨ (k = 92 ∧ j = 0) ∨ (k = 93 ∧ j < 7) ∨ (k = 94 ∧ j = 0)
def okv (D : List (Nat × Nat)) (v : jV) : Prop := match v with
  | .inl x => inR x
  | .inr (.inl x) => inL x
  | .inr (.inr (_, none)) => True
  | .inr (.inr (k, some j)) => okr D k j
def oks (D : List (Nat × Nat)) (st : List jV) : Prop := ∀ v ∈ st, okv D v
def okl (D : List (Nat × Nat)) (ls : jL) : Prop := ∀ o ∈ ls, ∀ v, o = some v → okv D v
theorem oks_nil {D : List (Nat × Nat)} : oks D [] := fun _ h => by cases h
theorem oks_cons {D : List (Nat × Nat)} {v : jV} {st : List jV} (h : okv D v) (hs : oks D st) : oks D (v :: st) := fun w hw => by
  rcases List.mem_cons.mp hw with rfl | h2
  · exact h
  · exact hs w h2
theorem oks_hd {D : List (Nat × Nat)} {v : jV} {st : List jV} (h : oks D (v :: st)) : okv D v := h v List.mem_cons_self
theorem oks_tl {D : List (Nat × Nat)} {v : jV} {st : List jV} (h : oks D (v :: st)) : oks D st := fun w hw => h w (List.mem_cons_of_mem _ hw)
def jcat (v : jV) : Nat := match v with
  | .inr (.inl _) => 2
  | _ => 1
def vsz : List jV → Nat
  | [] => 0
  | v :: st => jcat v + vsz st
def lget : jL → Nat → Option jV
  | [], _ => none
  | o :: _, 0 => o
  | _ :: t, n + 1 => lget t n
/-- a store of one word: the word ahead of it is lost, if it holds a long -/
def lput : jL → Nat → jV → jL
  | [], _, _ => []
  | _ :: t, 0, v => some v :: t
  | o :: t, 1, v => (match o with
      | some (.inr (.inl _)) => none
      | o => o) :: lput t 0 v
  | o :: t, n + 2, v => o :: lput t (n + 1) v
def lkill : jL → Nat → jL
  | [], _ => []
  | _ :: t, 0 => none :: t
  | o :: t, n + 1 => o :: lkill t n
def jpush (r : Option jV) (st : List jV) : List jV := match r with
  | some v => v :: st
  | none => st
-- numbers of the machine's operations
def jdiv (x y : Int) : Int := (Int32.ofInt x / Int32.ofInt y).toInt
def jrem (x y : Int) : Int := (Int32.ofInt x - Int32.ofInt x / Int32.ofInt y * Int32.ofInt y).toInt
def jand (x y : Int) : Int := (Int32.ofInt x &&& Int32.ofInt y).toInt
def jor (x y : Int) : Int := (Int32.ofInt x ||| Int32.ofInt y).toInt
def jxor (x y : Int) : Int := (Int32.ofInt x ^^^ Int32.ofInt y).toInt
def ldv (x y : Int) : Int := (Int64.ofInt x / Int64.ofInt y).toInt
def lrm (x y : Int) : Int := (Int64.ofInt x - Int64.ofInt x / Int64.ofInt y * Int64.ofInt y).toInt
def lnd (x y : Int) : Int := (Int64.ofInt x &&& Int64.ofInt y).toInt
def lro (x y : Int) : Int := (Int64.ofInt x ||| Int64.ofInt y).toInt
def jshl (x y : Int) : Int := (Int32.ofInt x <<< (Int32.ofInt y &&& 31)).toInt
def jshr (x y : Int) : Int := (Int32.ofInt x >>> (Int32.ofInt y &&& 31)).toInt
def jush (x y : Int) : Int := ((Int32.ofInt x).toUInt32 >>> ((Int32.ofInt y).toUInt32 &&& Int32.toUInt32 31)).toInt32.toInt
def jbyt (x : Int) : Int := (Int32.ofInt x).toInt8.toInt32.toInt
def jchr (x : Int) : Int := ((Int32.ofInt x).toUInt32 % 65536).toInt32.toInt
def lush (x y : Int) : Int := ((Int64.ofInt x).toUInt64 >>> ((Int32.ofInt y).toInt64.toUInt64 &&& Int64.toUInt64 63)).toInt64.toInt
def lshl' (x y : Int) : Int := (Int64.ofInt x <<< ((Int32.ofInt y).toInt64 &&& 63)).toInt
def jlcm (x y : Int) : Int := (lg_cmp (Int64.ofInt x) (Int64.ofInt y)).toInt
