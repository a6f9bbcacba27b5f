/-! ===== a4 kingdom: what it rests on where it throws ===== -/
def NSE : String := "java/util/NoSuchElementException"
def nseW : List Cond := (nx_own "LosersBooks" 156 NSE "java/lang/RuntimeException" ["java/lang/Exception"] 13 prog_29_method_4_code).filter vx_no
theorem nse_pl : nseW = [112, 1154, 1163, 1165, 1168, 1170, 1155, 1156, 123, 124, 1157, 1162, 1166, 1186, 1144, 1187, 1146, 1188, 1148, 1158, 1160, 1150, 1182, 1183, 1185, 1150, 1173, 1174, 1175, 1176, 1136, 1176, 1177, 1178, 1179, 1138, 1179, 1180, 1181, 1182, 1140, 1172, 1133, 1134, 1141, 1142, 1143, 1145, 1147, 1149, 1153, 1152, 1151].filterMap (fun i => lw_tbl[i]?) := by decide +kernel
theorem nse_in : ∀ w ∈ nseW, w ∈ lw_tbl := fun w hw => by rw [nse_pl] at hw; obtain ⟨i, -, hi⟩ := List.mem_filterMap.mp hw; exact List.mem_of_getElem? hi
def exW : List Cond := [.declares (Bundle.initS "java/lang/RuntimeException"), .declares (Bundle.initS "java/lang/Exception"), .declares (Bundle.initS Bundle.tN), .castable NSE NSE]
theorem nse_kw : ∀ w ∈ nseW, kw w = true ∨ w ∈ exW := by decide +kernel
theorem exW_ot : ∀ w ∈ exW, w.onTables = true := by decide +kernel
theorem exW_warm {s U : State} (hW : s.WarmedH U.vm) : ∀ w ∈ exW, w.before #[] s = true → ∀ a : Array Value, w.before a U = true := by
  intro w hw h a
  have h1 : w.before #[] (s.setVm U.vm) = true := by
    simp only [exW, List.mem_cons, List.not_mem_nil, or_false] at hw
    rcases hw with rfl | rfl | rfl | rfl
    · rw [Cond.declares_setVm hW.alike]; exact h
    · rw [Cond.declares_setVm hW.alike]; exact h
    · rw [Cond.declares_setVm hW.alike]; exact h
    · rw [Cond.castable_setVm hW.alike]; exact h
  exact va_tabs (exW_ot w hw) (rfl : (s.setVm U.vm).vm = U.vm) h1
theorem nse_ot : ∀ w ∈ Cond.classLink "LosersBooks" 152 NSE :: Cond.initialized NSE :: nseW, vx_ot w = true := by decide +kernel
/-- what a throw needs of the start -/
def EX (B : jB) (s1 s2 : Nat) (U : State) : Prop := vx_Zq Bundle.tN "UNASSIGNED_STACK" Bundle.steD (sysA B) U U.heap ∧ vx_Zq Bundle.tN "SUPPRESSED_SENTINEL" Bundle.listD (sysA B) U U.heap ∧ vk_R "LosersBooks" 154 "no such kingdom" s1 U ∧ vk_R "LosersBooks" 178 "no such quality of a kingdom" s2 U ∧ ∀ w ∈ exW, ∀ a : Array Value, w.before a U = true
theorem EX.call {B : jB} {s1 s2 : Nat} {s U : State} {H : Heap} {locs : List Loc} (h : EX B s1 s2 s) (hS : va_S (sysA B) s.heap H locs) (hW : s.WarmedH U.vm) (hU : U.heap = H) : EX B s1 s2 U := by
  obtain ⟨h1, h2, h3, h4, h5⟩ := h
  have hq : ∀ a : Nat, a < s.heap.size → ¬ sysA B a → U.heap[a]? = s.heap[a]? := fun a ha hn => by rw [hU]; exact hS.2.1 a ha hn
  exact ⟨vx_Zq.moved hW.alike (h1.kept hq), vx_Zq.moved hW.alike (h2.kept hq), vk_R.warm hW h3, vk_R.warm hW h4, fun w hw => exW_warm hW w hw (h5 w hw #[])⟩
theorem EX.ext {B B' : jB} {s1 s2 : Nat} {U : State} (h : EX B s1 s2 U) (hE : Ext B B') : EX B' s1 s2 U := by
  unfold EX
  rw [hE.sys]
  exact h
def PcK (B : jB) (s1 s2 : Nat) (as : List jV) (σ : jM) : Array Value → State → Prop := fun v U => PcX B as σ v U ∧ EX B s1 s2 U
theorem blindK {B : jB} {s1 s2 : Nat} {as : List jV} {σ : jM} : FrameBlind (PcK B s1 s2 as σ) := by
  intro a U g mk ⟨h1, h2⟩
  exact ⟨blindX a U g mk h1, EX.call (s := U) (locs := []) h2 va_S.rf (State.WarmedH.refl U) rfl⟩
def XcK (B : jB) (Ψ : jM → Prop) : String → State → State → Prop := fun E st t => E = NSE ∧ (∃ τ, Ψ τ ∧ okM B.2.1 τ ∧ Rp B τ t.heap) ∧ va_F (sysA B) st t
def RtX (X : jX) (Φ : jPh) (Ψ : jM → Prop) (s1 s2 : Nat) : Prop := match X with
  | (_, l, _, R, s, _, args, below, meth, c, Q, cells, slots, B, _) => meth.sig.returnType = some .int ∧ Q = vx_MQ below (QcX B Φ) (XcK B Ψ) args s 1 6 (sysA B) ∧ cells = 0 ∧ slots = 0 ∧ (1 ≤ R.cells ∧ 6 ≤ R.slots ∧ 6 ≤ R.frames ∧ 100 ≤ R.locals) ∧ (∀ x ∈ c.exceptionTable.toList, False) ∧ l.stackTraces = false ∧ EX B s1 s2 s
def c_thr (Ψ : jM → Prop) : jWp := fun _ st σ => st = [] ∧ Ψ σ
section RX
variable {X : jX} {own : String} {cc : ByteArray} {N pc : Nat} {Φ : jPh} {Ψ : jM → Prop} {s1 s2 : Nat}
theorem r_iretX (h : Cx X own cc N) (hr : RtX X Φ Ψ s1 s2) (hd : decode cc pc = .ok (.ireturn, 1)) : Sn X pc (c_iret Φ) := by
  obtain ⟨p, l, e, R, s, m, args, below, meth, c, Q, cells, slots, B, nL⟩ := X
  obtain ⟨hx, hb, -, -, -, -, -, -, hlocks, -⟩ := h
  obtain ⟨hr, rfl, rfl, rfl, -⟩ := hr
  intro ls st σ hw H locs rls hP hS hl hM hs hL
  rcases st with _ | ⟨x | x | x, _ | ⟨y, st⟩⟩ <;> first | exact hw.elim | skip
  refine W.widen (k := 1) (n := 6) (by decide) (by decide) (vx_ret ?_)
  exact W.iret hx hb hr (fun t ht _ => ⟨⟨some (.inl x), σ, rfl, hw, hM, okv_some (oks_hd hs), by rw [ht]; exact hP⟩, hS.F ht⟩) hS.2.2 hd
theorem r_thr {is sa : Nat} {tx : String} (h : Cx X "LosersBooks" cc N) (hr : RtX X Φ Ψ s1 s2) (hstr : ∀ U : State, (vk_R "LosersBooks" 154 "no such kingdom" s1 U ∧ vk_R "LosersBooks" 178 "no such quality of a kingdom" s2 U) → vk_R "LosersBooks" is tx sa U)
    (d0 : decode cc pc = .ok (.new 152, 3)) (d3 : decode cc (pc + 3) = .ok (.dup, 1)) (d4 : decode cc (pc + 4) = .ok (.ldc is, 2)) (d6 : decode cc (pc + 6) = .ok (.invokespecial 156, 3)) (d9 : decode cc (pc + 9) = .ok (.athrow, 1)) : Sn X pc (c_thr Ψ) := by
  obtain ⟨p, l, e, R, s, m, args, below, meth, c, Q, cells, slots, B, nL⟩ := X
  obtain ⟨hx, hb, hml, hN, hown, hT, hK, hbase, hlocks, hRm, hC⟩ := h
  obtain ⟨hr, rfl, rfl, rfl, ⟨r1, r2, r3, r4⟩, hex, hlt, he⟩ := hr
  intro ls st σ hw H locs rls hP hS hl hM hs hL
  obtain ⟨rfl, hw⟩ := hw
  refine nx_throwS (cls := NSE) (Y0 := "java/lang/RuntimeException") (r0 := ["java/lang/Exception"]) (ix := 13) (rx := prog_29_method_4_code) (ik := 152) (is := is) (ic := 156) (text := tx) (sa := sa) (A := sysA B) hx hb hlt hown (by decide +kernel) (by decide +kernel) (fun n hn => by cases List.mem_singleton.mp hn; decide +kernel) (by decide +kernel) (by decide +kernel) (by decide +kernel) (by decide +kernel) (hT _ k_1040 rfl _) (hT _ k_23 rfl _) (hstr s ⟨he.2.2.1, he.2.2.2.1⟩) (fun w hw => (nse_kw w hw).elim (fun z => hT w (nse_in w hw) z _) (fun z => he.2.2.2.2 w z _)) nse_ot he.1 he.2.1 hS (by rw [hml]; exact hl.1) d0 d3 d4 d6 d9 (fun x hx => (hex x hx).elim) (by show 2 + 3 < R.frames; omega) (by show 0 + (13 * (2 + 1) + 43) ≤ R.locals; omega) (by omega) (by omega) hlocks ?_ hS.2.2 (by decide) (by decide)
  intro t hvm hz hk
  refine ⟨rfl, ⟨σ, hw, hM, hP.1.kept (fun k x hx => hk x.1 ((hP.1 k x hx).lt)), hP.2⟩, Nat.le_trans hS.1 hz, fun q g1 g2 => ?_⟩
  rw [hk q (Nat.lt_of_lt_of_le g1 hS.1)]
  exact hS.2.1 q g1 g2
end RX
/-- a contract that returns or throws, out of a walk of the body -/
theorem CtX.intro {l : Launch} {B : jB} {d s1 s2 : Nat} {M : jMT} {as : List jV} {σ : jM} {Φ : jPh} {Ψ : jM → Prop} {own : String} (hpl : plainName M.1.cls = true) (hown : M.1.cls = own) (hret : M.2.2.2 = some .int) (hlen : (lent as).length ≤ M.2.2.1) (hd : 5 ≤ d) (hlt : l.stackTraces = false) (hC : clo B) (hM : okM B.2.1 σ) (ho : oks B.2.1 as)
    (body : ∀ X, Cx X own M.2.1 M.2.2.1 → Rm X d → RtX X Φ Ψ s1 s2 → AtX X 0 (lins as M.2.2.1) [] σ) : vx_Met l M.1 [.code M.1 M.2.1 M.2.2.1 M.2.2.2] (rmc (d + 1) 1 6) (PcK B s1 s2 as σ) (QcX B Φ) (XcK B Ψ) 1 6 (sysA B) := by
  refine vx_ofW (cc := M.2.1) (maxL := M.2.2.1) (ret := M.2.2.2) hpl rfl ?_
  intro p e s m args below meth c s₁ Bd hml hex hv
  obtain ⟨⟨rfl, hT, hK, hbase, hRm, hP⟩, he⟩ := hv
  have hown' : s.vm.findClass own = some m.cls := by rw [← hown]; exact findClass_of_methodNamed Bd.named
  have hl := lv_entry (as.map (vr B.1)) (n := M.2.2.1) (by rw [lent_len]; exact hlen)
  rw [lg_entry_eq]
  have h := body (p, l, e, rmc (d + 1) 1 6, s, m, (as.map (vr B.1)).toArray, below, meth, c, vx_MQ below (QcX B Φ) (XcK B Ψ) (as.map (vr B.1)).toArray s 1 6 (sysA B), 0, 0, B, M.2.2.1) ⟨Bd.exec, Bd.bytes, hml, rfl, hown', hT, hK, hbase, Bd.notSynchronized, hRm, hC⟩ ⟨Nat.le_refl _, Nat.le_refl _, Nat.zero_le _, Nat.zero_le _⟩ ⟨by rw [← hret]; exact Bd.returns, rfl, rfl, rfl, ⟨Nat.le_refl 1, Nat.le_refl 6, by show 6 ≤ d + 1; omega, by show 100 ≤ 64 * (d + 1); omega⟩, hex, hlt, he⟩
  refine h s.heap [] _ hP va_S.rf ?_ hM oks_nil ?_
  · unfold lins
    rw [lmp_ent]
    exact hl
  · intro o ho' w hw
    rcases List.mem_append.mp ho' with h1 | h1
    · exact okl_ent as ho o h1 w hw
    · rw [List.mem_replicate] at h1
      rw [h1.2] at hw
      cases hw
def M_LB_kingdom : jMT := (⟨"LosersBooks", "kingdom", "(II)I"⟩, prog_1_method_15_code, 3, (some .int))
theorem v_LB_kingdom : MV M_LB_kingdom 9 2 := ⟨k_1039, k_1037, k_1038, k_1, ⟨by decide +kernel, by decide +kernel⟩, by decide +kernel, by decide⟩
def w_LB_kingdom_116 (Φ : jPh) (Ψ : jM → Prop) (d : Nat) : jWp := c_thr Ψ
theorem s_LB_kingdom_116 {X : jX} {Φ : jPh} {Ψ : jM → Prop} {d s1 s2 : Nat} (h : Cx X "LosersBooks" prog_1_method_15_code 3) (hR : Rm X d) (hr : RtX X Φ Ψ s1 s2) : Sn X 116 (w_LB_kingdom_116 Φ Ψ d) :=
  r_thr (pc := 116) (is := 178) h hr (fun _ z => z.2) (by decide +kernel) (by decide +kernel) (by decide +kernel) (by decide +kernel) (by decide +kernel)
def w_LB_kingdom_106 (Φ : jPh) (Ψ : jM → Prop) (d : Nat) : jWp := c_al 0 (c_gS 9 8 (fun _ => 0) (c_gS 8 45 (fun j => j) (c_il 1 (c_iald 45 4 (c_iret Φ)))))
theorem s_LB_kingdom_106 {X : jX} {Φ : jPh} {Ψ : jM → Prop} {d s1 s2 : Nat} (h : Cx X "LosersBooks" prog_1_method_15_code 3) (hR : Rm X d) (hr : RtX X Φ Ψ s1 s2) : Sn X 106 (w_LB_kingdom_106 Φ Ψ d) :=
  r_al0 (pc := 106) (n := 0) h (by decide +kernel) rfl (r_gS (pc := 107) (K := 9) (o := 4) h (by decide) (by decide) rfl rfl (fun _ => rfl) (Or.inl k_293) (by decide +kernel) (r_gS (pc := 110) (K := 8) (o := 4) h (by decide) (by decide) rfl rfl (fun _ => rfl) (Or.inr ⟨"LosersBooks", k_76⟩) (by decide +kernel) (r_il0 (pc := 113) (n := 1) h (by decide +kernel) rfl (r_iald (pc := 114) h (by decide) (by decide) rfl rfl (fun _ => rfl) (by decide +kernel) (r_iretX (pc := 115) h hr (by decide +kernel))))))
def w_LB_kingdom_96 (Φ : jPh) (Ψ : jM → Prop) (d : Nat) : jWp := c_al 0 (c_gS 9 8 (fun _ => 0) (c_gS 8 46 (fun j => j) (c_il 1 (c_iald 46 4 (c_iret Φ)))))
theorem s_LB_kingdom_96 {X : jX} {Φ : jPh} {Ψ : jM → Prop} {d s1 s2 : Nat} (h : Cx X "LosersBooks" prog_1_method_15_code 3) (hR : Rm X d) (hr : RtX X Φ Ψ s1 s2) : Sn X 96 (w_LB_kingdom_96 Φ Ψ d) :=
  r_al0 (pc := 96) (n := 0) h (by decide +kernel) rfl (r_gS (pc := 97) (K := 9) (o := 4) h (by decide) (by decide) rfl rfl (fun _ => rfl) (Or.inl k_293) (by decide +kernel) (r_gS (pc := 100) (K := 8) (o := 5) h (by decide) (by decide) rfl rfl (fun _ => rfl) (Or.inr ⟨"LosersBooks", k_78⟩) (by decide +kernel) (r_il0 (pc := 103) (n := 1) h (by decide +kernel) rfl (r_iald (pc := 104) h (by decide) (by decide) rfl rfl (fun _ => rfl) (by decide +kernel) (r_iretX (pc := 105) h hr (by decide +kernel))))))
def w_LB_kingdom_86 (Φ : jPh) (Ψ : jM → Prop) (d : Nat) : jWp := c_al 0 (c_gS 9 8 (fun _ => 0) (c_gS 8 44 (fun j => j) (c_il 1 (c_iald 44 4 (c_iret Φ)))))
theorem s_LB_kingdom_86 {X : jX} {Φ : jPh} {Ψ : jM → Prop} {d s1 s2 : Nat} (h : Cx X "LosersBooks" prog_1_method_15_code 3) (hR : Rm X d) (hr : RtX X Φ Ψ s1 s2) : Sn X 86 (w_LB_kingdom_86 Φ Ψ d) :=
  r_al0 (pc := 86) (n := 0) h (by decide +kernel) rfl (r_gS (pc := 87) (K := 9) (o := 4) h (by decide) (by decide) rfl rfl (fun _ => rfl) (Or.inl k_293) (by decide +kernel) (r_gS (pc := 90) (K := 8) (o := 3) h (by decide) (by decide) rfl rfl (fun _ => rfl) (Or.inr ⟨"LosersBooks", k_74⟩) (by decide +kernel) (r_il0 (pc := 93) (n := 1) h (by decide +kernel) rfl (r_iald (pc := 94) h (by decide) (by decide) rfl rfl (fun _ => rfl) (by decide +kernel) (r_iretX (pc := 95) h hr (by decide +kernel))))))
def w_LB_kingdom_76 (Φ : jPh) (Ψ : jM → Prop) (d : Nat) : jWp := c_al 0 (c_gS 9 8 (fun _ => 0) (c_gS 8 43 (fun j => j) (c_il 1 (c_iald 43 4 (c_iret Φ)))))
theorem s_LB_kingdom_76 {X : jX} {Φ : jPh} {Ψ : jM → Prop} {d s1 s2 : Nat} (h : Cx X "LosersBooks" prog_1_method_15_code 3) (hR : Rm X d) (hr : RtX X Φ Ψ s1 s2) : Sn X 76 (w_LB_kingdom_76 Φ Ψ d) :=
  r_al0 (pc := 76) (n := 0) h (by decide +kernel) rfl (r_gS (pc := 77) (K := 9) (o := 4) h (by decide) (by decide) rfl rfl (fun _ => rfl) (Or.inl k_293) (by decide +kernel) (r_gS (pc := 80) (K := 8) (o := 2) h (by decide) (by decide) rfl rfl (fun _ => rfl) (Or.inr ⟨"LosersBooks", k_72⟩) (by decide +kernel) (r_il0 (pc := 83) (n := 1) h (by decide +kernel) rfl (r_iald (pc := 84) h (by decide) (by decide) rfl rfl (fun _ => rfl) (by decide +kernel) (r_iretX (pc := 85) h hr (by decide +kernel))))))
def w_LB_kingdom_66 (Φ : jPh) (Ψ : jM → Prop) (d : Nat) : jWp := c_al 0 (c_gS 9 8 (fun _ => 0) (c_gS 8 42 (fun j => j) (c_il 1 (c_iald 42 4 (c_iret Φ)))))
theorem s_LB_kingdom_66 {X : jX} {Φ : jPh} {Ψ : jM → Prop} {d s1 s2 : Nat} (h : Cx X "LosersBooks" prog_1_method_15_code 3) (hR : Rm X d) (hr : RtX X Φ Ψ s1 s2) : Sn X 66 (w_LB_kingdom_66 Φ Ψ d) :=
  r_al0 (pc := 66) (n := 0) h (by decide +kernel) rfl (r_gS (pc := 67) (K := 9) (o := 4) h (by decide) (by decide) rfl rfl (fun _ => rfl) (Or.inl k_293) (by decide +kernel) (r_gS (pc := 70) (K := 8) (o := 1) h (by decide) (by decide) rfl rfl (fun _ => rfl) (Or.inr ⟨"LosersBooks", k_70⟩) (by decide +kernel) (r_il0 (pc := 73) (n := 1) h (by decide +kernel) rfl (r_iald (pc := 74) h (by decide) (by decide) rfl rfl (fun _ => rfl) (by decide +kernel) (r_iretX (pc := 75) h hr (by decide +kernel))))))
def w_LB_kingdom_56 (Φ : jPh) (Ψ : jM → Prop) (d : Nat) : jWp := c_al 0 (c_gS 9 8 (fun _ => 0) (c_gS 8 41 (fun j => j) (c_il 1 (c_iald 41 4 (c_iret Φ)))))
theorem s_LB_kingdom_56 {X : jX} {Φ : jPh} {Ψ : jM → Prop} {d s1 s2 : Nat} (h : Cx X "LosersBooks" prog_1_method_15_code 3) (hR : Rm X d) (hr : RtX X Φ Ψ s1 s2) : Sn X 56 (w_LB_kingdom_56 Φ Ψ d) :=
  r_al0 (pc := 56) (n := 0) h (by decide +kernel) rfl (r_gS (pc := 57) (K := 9) (o := 4) h (by decide) (by decide) rfl rfl (fun _ => rfl) (Or.inl k_293) (by decide +kernel) (r_gS (pc := 60) (K := 8) (o := 0) h (by decide) (by decide) rfl rfl (fun _ => rfl) (Or.inr ⟨"LosersBooks", k_68⟩) (by decide +kernel) (r_il0 (pc := 63) (n := 1) h (by decide +kernel) rfl (r_iald (pc := 64) h (by decide) (by decide) rfl rfl (fun _ => rfl) (by decide +kernel) (r_iretX (pc := 65) h hr (by decide +kernel))))))
def w_LB_kingdom_18 (Φ : jPh) (Ψ : jM → Prop) (d : Nat) : jWp := c_il 2 (c_sw [(0, (w_LB_kingdom_56 Φ Ψ d)), (1, (w_LB_kingdom_66 Φ Ψ d)), (2, (w_LB_kingdom_76 Φ Ψ d)), (3, (w_LB_kingdom_86 Φ Ψ d)), (4, (w_LB_kingdom_96 Φ Ψ d)), (5, (w_LB_kingdom_106 Φ Ψ d))] ((w_LB_kingdom_116 Φ Ψ d)))
theorem s_LB_kingdom_18 {X : jX} {Φ : jPh} {Ψ : jM → Prop} {d s1 s2 : Nat} (h : Cx X "LosersBooks" prog_1_method_15_code 3) (hR : Rm X d) (hr : RtX X Φ Ψ s1 s2) : Sn X 18 (w_LB_kingdom_18 Φ Ψ d) :=
  r_il0 (pc := 18) (n := 2) h (by decide +kernel) rfl (m_tsw (r_tsw (pc := 19) (dflt := 97) (lo := 0) (hi := 5) (offs := #[37, 47, 57, 67, 77, 87]) (len := 37) (ts := [56, 66, 76, 86, 96, 106]) (dt := 116) h (by decide +kernel) (by decide) (by decide) (by decide)) (by rfl) ⟨(s_LB_kingdom_56 h hR hr), (s_LB_kingdom_66 h hR hr), (s_LB_kingdom_76 h hR hr), (s_LB_kingdom_86 h hR hr), (s_LB_kingdom_96 h hR hr), (s_LB_kingdom_106 h hR hr), trivial⟩ (s_LB_kingdom_116 h hR hr))
def w_LB_kingdom_0 (Φ : jPh) (Ψ : jM → Prop) (d : Nat) : jWp := c_al 0 (c_il 1 (c_callV d M_LB_isKingdom 9 1 (c_j1 (fun x => x ≠ 0) ((w_LB_kingdom_18 Φ Ψ d)) (c_thr Ψ))))
theorem s_LB_kingdom_0 {X : jX} {Φ : jPh} {Ψ : jM → Prop} {d s1 s2 : Nat} (h : Cx X "LosersBooks" prog_1_method_15_code 3) (hR : Rm X d) (hr : RtX X Φ Ψ s1 s2) : Sn X 0 (w_LB_kingdom_0 Φ Ψ d) :=
  r_al0 (pc := 0) (n := 0) h (by decide +kernel) rfl (r_il0 (pc := 1) (n := 1) h (by decide +kernel) rfl (r_callV (pc := 2) h hR v_LB_isKingdom (by decide) (Or.inl k_702) (by decide +kernel) (m_j1 (r_ifne (pc := 5) (off := 13) (tgt := 18) h (by decide +kernel) (by decide) (r_thr (pc := 8) (is := 154) h hr (fun _ z => z.1) (by decide +kernel) (by decide +kernel) (by decide +kernel) (by decide +kernel) (by decide +kernel))) (s_LB_kingdom_18 h hR hr))))
