/-! ===== b2 the start: what the Statement gives ===== -/
abbrev F1 : List Cond := flatC (Jvm.Cond.and given_1 narrow_1)
def tmT : Nat → Term := fun i => match i with | 0 => .string "LosersBooks$Realm" 102 | 1 => .string "LosersBooks$Realm" 111 | 2 => .string "LosersBooks$Realm" 33 | 3 => .string "LosersBooks$LawReader" 98 | 4 => .string "LosersBooks$LawReader" 57 | 5 => .string "LosersBooks$Campaign" 44 | _ => .string "LosersBooksModel" 26
theorem tx_ex : ∀ i, i < 7 → Cond.exactly (tmT i) "java/lang/String" ∈ F1 := by decide +kernel
theorem tx_co : ∀ i, i < 7 → Cond.eq (.field (tmT i) "java/lang/String" "coder" "B") (.int 0) ∈ F1 := by decide +kernel
theorem tx_ar : ∀ i, i < 7 → Cond.arrayOf (.field (tmT i) "java/lang/String" "value" "[B") .byte ∈ F1 := by decide +kernel
theorem tx_le : ∀ i, i < 7 → Cond.eq (.length (.field (tmT i) "java/lang/String" "value" "[B")) (.int (Int32.ofNat (jlen.getD i 0))) ∈ F1 := by decide +kernel
theorem tx_el : ∀ i, i < 7 → ∀ j, j < jlen.getD i 0 → Cond.eq (.elem (.field (tmT i) "java/lang/String" "value" "[B") (.int (Int32.ofNat j))) (.int ((jbys.getD i []).getD j 0)) ∈ F1 := by decide +kernel
theorem tx_ne : ∀ i, i < 7 → ∀ j, j < 7 → i ≠ j → Cond.not (Cond.eq (tmT i) (tmT j)) ∈ F1 ∨ Cond.not (Cond.eq (tmT j) (tmT i)) ∈ F1 := by decide +kernel
theorem bn_ar : ∀ j, j < 3 → Cond.arrayOf (.static "LosersBooks$Realm" (jbns j) "[I") .int ∈ F1 := by decide +kernel
theorem bn_le : ∀ j, j < 3 → Cond.eq (.length (.static "LosersBooks$Realm" (jbns j) "[I")) (.int (Int32.ofNat (jbdl j))) ∈ F1 := by decide +kernel
theorem bn_el : ∀ j, j < 3 → ∀ o, o < jbdl j → Cond.eq (.elem (.static "LosersBooks$Realm" (jbns j) "[I") (.int (Int32.ofNat o))) (.int (Int32.ofInt (jbnd j o))) ∈ F1 := by decide +kernel
theorem bn_ls : ∀ j, j < 3 → Cond.laysStatic "LosersBooks$Realm" (jbns j) "[I" ∈ lw_tbl
  | 0, _ => k_395
  | 1, _ => k_498
  | 2, _ => k_504
  | j + 3, h => absurd h (by omega)
theorem inst_at : ∀ k, k < 11 → Cond.instantiable (jR k) (jn k) ∈ lw_tbl
  | 0, _ => k_116
  | 1, _ => k_272
  | 2, _ => k_171
  | 3, _ => k_253
  | 4, _ => k_515
  | 5, _ => k_182
  | 6, _ => k_136
  | 7, _ => k_34
  | 8, _ => k_62
  | 9, _ => k_26
  | 10, _ => k_1107
  | k + 11, h => absurd h (by omega)
theorem exW_in : ∀ w ∈ exW, w ∈ nseW := by decide +kernel
theorem jbdl_lt : ∀ j, jbdl j < 2 ^ 31 := fun j => by unfold jbdl; split <;> decide
section ST
variable {s : State} {A : Array Value}
theorem Tb_of (h : ∀ w ∈ lw_tbl, w.before A s = true) : Tb s := fun w hw hk a => by
  have hh := h w hw
  have gen : (w.onTables && w.keeps) = true → w.before a s = true := fun h1 => word_at (State.WarmedH.refl s) (Or.inl h1) hh
  cases w with
  | arrayClass ty => exact word_at (State.WarmedH.refl s) (Or.inr ⟨ty, rfl⟩) hh
  | fieldLinkNest b i c n d e => exact va_tabs rfl rfl hh
  | methodLinkNest b i c e => exact va_tabs rfl rfl hh
  | arrayOver ty =>
    cases ty with
    | object C => exact va_AO.use (va_AO.of hh)
    | _ => exact gen hk
  | _ => exact gen hk
theorem K_of (hts : ∀ w ∈ lw_tbl, w.before A s = true) : ∃ (G : va_G) (ro : Nat → ClassId), ∀ (al : Nat → Nat → Nat) (D : List (Nat × Nat)) (n : Nat), va_K G jcl (jtys (al, D, G, ro, n)) s := by
  have h1 : ∀ k, ∃ q : ClassId × (Nat → Nat), k < 11 → u_Kn s (jR k) (jT k) (jn k) q.1 q.2 := fun k => by
    by_cases hk : k < 11
    · obtain ⟨c, i, h⟩ := u_known (C := jR k) (T := jT k) (N := jn k) (n := jn k) hts (jW_at k hk) (hts _ (inst_at k hk))
      exact ⟨(c, i), fun _ => h⟩
    · exact ⟨(0, fun _ => 0), fun h => absurd h hk⟩
  have ar : ∀ ty : FieldType, (∀ C, ty ≠ .object C) → Cond.arrayClass ty ∈ lw_tbl → ∃ cA : ClassId, ArrOfT s cA ty ∧ va_RA s cA ty := fun ty hne hw => by
    obtain ⟨c, k, comp, g1, g2, g3⟩ := Cond.arrayClass_spec (args := A) (first := s) (o := none) (s := s) (idx := []) (hts _ hw)
    refine ⟨c, fun N z => ⟨(fun k h => by cases h), k, g2, comp, g3⟩, ?_⟩
    cases ty with
    | object C => exact absurd rfl (hne C)
    | _ => exact g1
  have ao : ∀ C : String, Cond.arrayOver (.object C) ∈ lw_tbl → ∃ cA : ClassId, ArrOfT s cA (.object C) ∧ va_RA s cA (.object C) := fun C hw => by
    obtain ⟨comp, c, k, g1, -, g2, g3, g4⟩ := Cond.arrayOver_spec (args := A) (first := s) (o := none) (s := s) (idx := []) (hts _ hw)
    exact ⟨c, fun N z => ⟨(fun k h => by cases h), k, g2, comp, g3⟩, k, comp, g2, g3, g1, g4⟩
  have h2 : ∀ c, ∃ cA : ClassId, c < 6 → ArrOfT s cA (eTy c) ∧ va_RA s cA (eTy c) := fun c => by
    match c with
    | 0 => obtain ⟨x, h⟩ := ar .int (fun _ h => by cases h) k_56; exact ⟨x, fun _ => h⟩
    | 1 => obtain ⟨x, h⟩ := ar .byte (fun _ h => by cases h) k_252; exact ⟨x, fun _ => h⟩
    | 2 => obtain ⟨x, h⟩ := ar .long (fun _ h => by cases h) k_1259; exact ⟨x, fun _ => h⟩
    | 3 => obtain ⟨x, h⟩ := ao "LosersBooks$World" k_122; exact ⟨x, fun _ => h⟩
    | 4 => obtain ⟨x, h⟩ := ao "LosersBooks$Law" k_58; exact ⟨x, fun _ => h⟩
    | 5 => obtain ⟨x, h⟩ := ao "LosersBooks$Campaign" k_60; exact ⟨x, fun _ => h⟩
    | c + 6 => exact ⟨0, fun h => absurd h (by omega)⟩
  obtain ⟨g, hg⟩ := Classical.axiomOfChoice h1
  obtain ⟨ro, hro⟩ := Classical.axiomOfChoice h2
  refine ⟨(fun k => (g k).1, fun k => (g k).2), ro, fun al D n => ⟨fun c q hq => ?_, fun k q hq => ?_⟩⟩
  · have hc : c < 11 := (List.getElem?_eq_some_iff.mp hq).1
    cases (jcl_at c hc).symm.trans hq
    exact hg c hc
  · have hk : k < 6 := by
      have := (List.getElem?_eq_some_iff.mp hq).1
      simpa [jtys] using this
    have e : (jtys (al, D, ((fun k => (g k).1, fun k => (g k).2) : va_G), ro, n))[k]? = some (ro k, eTy k) := by simp [jtys, hk]
    cases e.symm.trans hq
    exact hro k hk
theorem Rom_of (hts : ∀ w ∈ lw_tbl, w.before A s = true) (hs : ∀ w ∈ F1, w.before A s = true) (b : Nat) (r : va_G × (Nat → ClassId)) : ∃ al : Nat → Nat → Nat, al 92 0 = b ∧ Rom (al, [], r.1, r.2, s.heap.size) s := by
  have hA : ∀ a : Nat, a < s.heap.size → ¬ (fun q : Nat => s.heap.size ≤ q) a := fun a h z => Nat.not_le.mpr h z
  obtain ⟨adK, adV, hS, hev⟩ := vk_Sof (args := A) (s := s) (N := 7) (tm := tmT) (len := jlen) (byt := jbys) (A := fun q : Nat => s.heap.size ≤ q) (by decide) (fun i hi => hs _ (tx_ex i hi)) (fun i hi => hs _ (tx_co i hi)) (fun i hi => hs _ (tx_ar i hi)) (fun i hi => hs _ (tx_le i hi)) (fun i hi j hj => hs _ (tx_el i hi j hj)) (fun i j hi hj hne => (tx_ne i hi j hj hne).imp (hs _) (hs _)) hA
  have hb : ∀ j, ∃ t : Nat, j < 3 → va_Z "LosersBooks$Realm" (jbns j) "[I" (.ref t) (fun q : Nat => s.heap.size ≤ q) s s.heap ∧ va_T .int t (jbdl j) (fun o => .int (Int32.ofInt (jbnd j o))) (fun q : Nat => s.heap.size ≤ q) s s.heap := fun j => by
    by_cases hj : j < 3
    · obtain ⟨t, g1, g2⟩ := va_Tof (args := A) (s := s) (tm := .static "LosersBooks$Realm" (jbns j) "[I") (ty := .int) (N := jbdl j) (f := fun o => .int (Int32.ofInt (jbnd j o))) (A := fun q : Nat => s.heap.size ≤ q) (jbdl_lt j) (hs _ (bn_ar j hj)) (va_eqt (hs _ (bn_le j hj))) (fun o ho => va_eqt (hs _ (bn_el j hj o ho))) hA
      exact ⟨t, fun _ => ⟨va_Zof (hts _ (bn_ls j hj)) (hts _ k_7) g1 hA, g2⟩⟩
    · exact ⟨0, fun h => absurd h hj⟩
  obtain ⟨t91, h91⟩ := Classical.axiomOfChoice hb
  have hcs : va_Z "java/lang/String" "COMPACT_STRINGS" "Z" (.int 1) (fun q : Nat => s.heap.size ≤ q) s s.heap := va_Zof (hts _ k_197) (hts _ k_8) (va_eqt (hs _ (by decide +kernel))) hA
  have hfm : va_Zq "jdk/internal/util/Preconditions" "SIOOBE_FORMATTER" "Ljava/util/function/BiFunction;" (fun q : Nat => s.heap.size ≤ q) s s.heap := va_Zqof (hts _ k_450) (hts _ k_15) (hs _ (by decide +kernel)) hA
  have hR : ∀ q ∈ jstr, vk_R q.1 q.2.1 q.2.2.1 (adK q.2.2.2) s := by
    intro q hq
    simp only [jstr, List.mem_cons, List.not_mem_nil, or_false] at hq
    rcases hq with rfl | rfl | rfl | rfl | rfl | rfl | rfl | rfl | rfl | rfl | rfl | rfl
    · exact vk_R.of (hts _ k_187) (hev 2 (by decide))
    · exact vk_R.of (hts _ k_393) (hev 0 (by decide))
    · exact vk_R.of (hts _ k_496) (hev 1 (by decide))
    · exact vk_R.of (hts _ k_575) (hev 3 (by decide))
    · exact vk_R.of (hts _ k_583) (hev 4 (by decide))
    · exact vk_R.of (hts _ k_610) (hev 5 (by decide))
    · exact vk_R.of (hts _ k_1112) (hev 6 (by decide))
    · exact vk_R.of (hts _ k_1113) (va_eqR (t := tmT 3) (hs _ (by decide +kernel)) (hev 3 (by decide)))
    · exact vk_R.of (hts _ k_1310) (va_eqR (t := tmT 0) (hs _ (by decide +kernel)) (hev 0 (by decide)))
    · exact vk_R.of (hts _ k_1357) (va_eqR (t := tmT 1) (hs _ (by decide +kernel)) (hev 1 (by decide)))
    · exact vk_R.of (hts _ k_1358) (va_eqR (t := tmT 2) (hs _ (by decide +kernel)) (hev 2 (by decide)))
    · exact vk_R.of (hts _ k_1432) (va_eqR (t := tmT 5) (hs _ (by decide +kernel)) (hev 5 (by decide)))
  obtain ⟨t94, r94, hr, hz⟩ : ∃ (t94 : Nat) (r94 : Option Nat), (∀ i, r94 = some i → i = 0) ∧ va_Z "jdk/internal/util/Preconditions" "SIOOBE_FORMATTER" "Ljava/util/function/BiFunction;" (match r94 with | none => .null | some _ => .ref t94) (fun q : Nat => s.heap.size ≤ q) s s.heap := by
    rcases hfm with h | ⟨t, h⟩
    · exact ⟨0, none, (fun i hi => by cases hi), h⟩
    · exact ⟨t, some 0, (fun i hi => by cases hi; rfl), h⟩
  refine ⟨fun k i => if k = 90 then adK i else if k = 91 then t91 i else if k = 93 then adV i else if k = 94 then t94 else b, rfl, hR, hS, h91, hcs, r94, hr, ?_⟩
  cases r94 with
  | none => exact hz
  | some i => exact hz
theorem EX_of {B : jB} (hts : ∀ w ∈ lw_tbl, w.before A s = true) (hs : ∀ w ∈ F1, w.before A s = true) (hB : B.2.2.2.2 = s.heap.size) : ∃ s1 s2 : Nat, EX B s1 s2 s := by
  have hA : ∀ a : Nat, a < s.heap.size → ¬ sysA B a := fun a h z => by
    have z : B.2.2.2.2 ≤ a := z
    omega
  have str : ∀ (ix : Nat) (tx : String), Cond.exactly (Term.string "LosersBooks" ix) "java/lang/String" ∈ F1 → Cond.stringRef "LosersBooks" ix tx ∈ lw_tbl → ∃ a : Nat, vk_R "LosersBooks" ix tx a s := fun ix tx h1 h2 => by
    obtain ⟨a, c, cA, kA, q1, -⟩ := Cond.exactly_spec (args := A) (first := s) (o := none) (s := s) (idx := []) (t := Term.string "LosersBooks" ix) (cls := "java/lang/String") (hs _ h1)
    exact ⟨a, vk_R.of (hts _ h2) q1⟩
  obtain ⟨s1, g1⟩ := str 154 "no such kingdom" (by decide +kernel) k_1079
  obtain ⟨s2, g2⟩ := str 178 "no such quality of a kingdom" (by decide +kernel) k_1105
  exact ⟨s1, s2, vx_Zqof (hts _ k_1067) (hts _ k_20) (hs _ (by decide +kernel)) hA, vx_Zqof (hts _ k_1069) (hts _ k_20) (hs _ (by decide +kernel)) hA, g1, g2, fun w hw a => va_tabs (exW_ot w hw) rfl (hts w (nse_in w (exW_in w hw)))⟩
end ST
