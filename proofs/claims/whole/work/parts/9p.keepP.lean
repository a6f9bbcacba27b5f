/-! ===== 9p text: the state behind a campaign ===== -/
section KP
variable {σ τ υ : jM} {n : Nat} {T : Nat → Int} {K F r N P : Nat} {CL : Nat → List Int} {PL : Nat → List (Int × Int)} {U : List (Nat → Int)} {nt : List jN}
def Skc (r N P : Nat) : jS := fun k j o => Sg r N P k j o ∨ (k = 50 ∧ j = 0 ∧ o = P) ∨ (k = 9 ∧ j = 0 ∧ (o = 13 ∨ o = 15)) ∨ (k = 7 ∧ j = 0 ∧ o = 1) ∨ (j = P + 1 ∧ (k = 1 ∨ k = 21 ∨ k = 22))
def Sm' (r N P : Nat) : jS := fun k j o => Skc r N P k j o ∨ Sw' P k j o
theorem tJ2 {l : List (Int × Int)} (h : Jx σ n T K F r N P CL PL U nt) (hP4 : P < 4) (hl : ∀ s ∈ l, PSt s) (h1 : Fr (Skc r N P) σ τ) (hat : ∃ b : Nat, τ.1 7 0 2 = b) (hv : PV τ P l) (k1 : τ.2.2 50 0 P = some P) (k2 : τ.2.2 9 0 13 = some (P + 1)) (k3 : τ.1 9 0 15 = ((P + 1 : Nat) : Int)) (k4 : τ.1 7 0 1 = 0)
    (h2 : Fr (Sw' P) τ υ) (m1 : υ.1 10 0 6 = 0) (m2 : υ.1 10 0 30 = ((P + 1 : Nat) : Int)) (m3 : υ.1 68 0 P = l.length) (m4 : ∀ i, i < l.length → υ.1 67 0 (32 * P + 2 * i) = (l.getD i (0, 0)).1 ∧ υ.1 67 0 (32 * P + 2 * i + 1) = (l.getD i (0, 0)).2) : J (N, P + 1) υ := by
  obtain ⟨hT, hR, hW, hA, hI, hK, hM, hP, hNn, hG⟩ := id h
  have r2 := hR.2.2.1
  have hF : Fr (Sm' r N P) σ υ := (h1.wk (fun k j o q => Or.inl q)).tr (h2.wk (fun k j o q => Or.inr q))
  refine ⟨0, T, K, F, r, N, P + 1, CL, fun i => if i = P then l else PL i, U, nt, rfl, ?_, ?_, ?_, ?_, ?_, ?_, ?_, ?_, ?_, ?_⟩
  · obtain ⟨b, hb⟩ := hat
    refine ⟨⟨b, υ.1 7 0 3, by omega, ?_, fun i hi => absurd hi (by omega), ?_, rfl⟩, ⟨by omega, by omega, by omega, fun i hi => absurd hi (by omega), fun i hi => absurd hi (by omega)⟩, m1⟩
    · rw [h2.i (by simp only [Sw', Sh, Stz]; omega)]; exact k4
    · rw [h2.i (by simp only [Sw', Sh, Stz]; omega)]; exact hb
  · exact hR.fr hF (fun k j o q w => by simp only [fR, Sm', Skc, Sg, Sc, Sw', Sh, Stz] at q w; omega)
  · exact hW.fr hF (fun k j o q w => by simp only [fW, Sm', Skc, Sg, Sc, Sw', Sh, Stz] at q w; omega)
  · exact hA.fr hF (fun k j o q w => by simp only [fA, fC, fU, Sm', Skc, Sg, Sc, Sw', Sh, Stz] at q w; omega)
  · exact hI.fr hF (fun k j o q w => by simp only [fI, Sm', Skc, Sg, Sc, Sw', Sh, Stz] at q w; omega)
  · exact hK.fr hF (fun k j o q w => by simp only [fK, Sm', Skc, Sg, Sc, Sw', Sh, Stz] at q w; omega)
  · exact hM.fr hF (fun k j o q w => by simp only [fM, Sm', Skc, Sg, Sc, Sw', Sh, Stz] at q w; omega)
  · obtain ⟨a0, a1, a2, a3, a4⟩ := hP
    refine ⟨by omega, ?_, m2, ?_, fun i hi => ?_⟩
    · rw [h2.i (by simp only [Sw', Sh, Stz]; omega)]; exact k3
    · rw [h2.r (by simp only [Sw', Sh, Stz]; omega)]; exact k2
    · by_cases z : i = P
      · subst z
        simp only [if_true]
        obtain ⟨b1, b2, b3⟩ := hv
        refine ⟨by rw [h2.r (by simp only [Sw', Sh, Stz]; omega)]; exact k1, ⟨by rw [h2.i (by simp only [Sw', Sh, Stz]; omega)]; exact b1, b2, fun q hq => ?_⟩, m3, m4, hl⟩
        rw [h2.i (by simp only [Sw', Sh, Stz]; omega), h2.i (by simp only [Sw', Sh, Stz]; omega)]
        exact b3 q hq
      · simp only [if_neg z]
        obtain ⟨c1, ⟨b1, b2, b3⟩, c2, c3, c4⟩ := a4 i (by omega)
        refine ⟨by rw [hF.r (by simp only [Sm', Skc, Sg, Sc, Sw', Sh, Stz]; omega)]; exact c1, ⟨by rw [hF.i (by simp only [Sm', Skc, Sg, Sc, Sw', Sh, Stz]; omega)]; exact b1, b2, fun q hq => ?_⟩, by rw [hF.i (by simp only [Sm', Skc, Sg, Sc, Sw', Sh, Stz]; omega)]; exact c2, fun q hq => ?_, c4⟩
        · rw [hF.i (by simp only [Sm', Skc, Sg, Sc, Sw', Sh, Stz]; omega), hF.i (by simp only [Sm', Skc, Sg, Sc, Sw', Sh, Stz]; omega)]
          exact b3 q hq
        · rw [hF.i (by simp only [Sm', Skc, Sg, Sc, Sw', Sh, Stz]; omega), hF.i (by simp only [Sm', Skc, Sg, Sc, Sw', Sh, Stz]; omega)]
          exact c3 q hq
  · exact hNn.fr hF (fun k j o q w => by simp only [fN, fD, fE, Sm', Skc, Sg, Sc, Sw', Sh, Stz] at q w; omega)
  · exact hG.fr hF (fun k j o q w => by simp only [fG, Sm', Skc, Sg, Sc, Sw', Sh, Stz] at q w; omega)
end KP
