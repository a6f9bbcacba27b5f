/-! ===== 9o text: the state behind a law, behind a campaign ===== -/
section KJ
variable {σ τ υ : jM} {n : Nat} {T : Nat → Int} {K F r N P : Nat} {CL : Nat → List Int} {PL : Nat → List (Int × Int)} {U : List (Nat → Int)} {nt : List jN}
def Skl (r N P : Nat) : jS := fun k j o => Sg r N P k j o ∨ (k = 49 ∧ j = 0 ∧ o = N) ∨ (k = 9 ∧ j = 0 ∧ (o = 12 ∨ o = 14)) ∨ (k = 7 ∧ j = 0 ∧ o = 1) ∨ (j = N + 1 ∧ (k = 3 ∨ (23 ≤ k ∧ k ≤ 25)))
def Sl' (r N P : Nat) : jS := fun k j o => Skl r N P k j o ∨ Sv N k j o
theorem tJ1 {b : Nat} {c : List Int} (h : Jx σ n T K F r N P CL PL U nt) (hN : N < 4) (hq : pLaw T n = .inr (b, c)) (hc : LOK c) (h1 : Fr (Skl r N P) σ τ) (hat : ∃ b : Nat, τ.1 7 0 2 = b) (hv : LV τ N c) (k1 : τ.2.2 49 0 N = some N) (k2 : τ.2.2 9 0 12 = some (N + 1)) (k3 : τ.1 9 0 14 = ((N + 1 : Nat) : Int)) (k4 : τ.1 7 0 1 = 0)
    (h2 : Fr (Sv N) τ υ) (m1 : υ.1 10 0 6 = 0) (m2 : υ.1 10 0 7 = ((N + 1 : Nat) : Int)) (m3 : υ.1 61 0 N = n) (m4 : TX υ 1 (240 * N) n T) : J (N + 1, P) υ := by
  obtain ⟨hT, hR, hW, hA, hI, hK, hM, hP, hNn, hG⟩ := id h
  have r2 := hR.2.2.1
  have hF : Fr (Sl' r N P) σ υ := (h1.wk (fun k j o q => Or.inl q)).tr (h2.wk (fun k j o q => Or.inr q))
  refine ⟨0, T, K, F, r, N + 1, P, fun i => if i = N then c else CL i, PL, U, nt, rfl, ?_, ?_, ?_, ?_, ?_, ?_, ?_, ?_, ?_, ?_⟩
  · obtain ⟨b, hb⟩ := hat
    refine ⟨⟨b, υ.1 7 0 3, by omega, ?_, fun i hi => absurd hi (by omega), ?_, rfl⟩, ⟨by omega, by omega, by omega, fun i hi => absurd hi (by omega), fun i hi => absurd hi (by omega)⟩, m1⟩
    · rw [h2.i (by simp only [Sv, Sh, Sty]; omega)]; exact k4
    · rw [h2.i (by simp only [Sv, Sh, Sty]; omega)]; exact hb
  · exact hR.fr hF (fun k j o q w => by simp only [fR, Sl', Skl, Sg, Sc, Sv, Sh, Sty] at q w; omega)
  · exact hW.fr hF (fun k j o q w => by simp only [fW, Sl', Skl, Sg, Sc, Sv, Sh, Sty] at q w; omega)
  · exact hA.fr hF (fun k j o q w => by simp only [fA, fC, fU, Sl', Skl, Sg, Sc, Sv, Sh, Sty] at q w; omega)
  · exact hI.fr hF (fun k j o q w => by simp only [fI, Sl', Skl, Sg, Sc, Sv, Sh, Sty] at q w; omega)
  · obtain ⟨a1, a2, a3, a4, a5, a6, a7⟩ := hK
    have e34 : υ.1 10 0 34 = σ.1 10 0 34 := hF.i (by simp only [Sl', Skl, Sg, Sc, Sv, Sh, Sty]; omega)
    refine ⟨?_, m2, ?_, fun i hi => ?_, ?_, by rw [e34]; exact a6, by rw [e34]; omega⟩
    · rw [h2.i (by simp only [Sv, Sh, Sty]; omega)]; exact k3
    · rw [h2.r (by simp only [Sv, Sh, Sty]; omega)]; exact k2
    · by_cases z : i = N
      · subst z
        simp only [if_true]
        refine ⟨by rw [h2.r (by simp only [Sv, Sh, Sty]; omega)]; exact k1, ?_⟩
        obtain ⟨b1, b2, b3⟩ := hv
        exact ⟨by rw [h2.i (by simp only [Sv, Sh, Sty]; omega)]; exact b1, b2, fun q hq => by rw [h2.i (by simp only [Sv, Sh, Sty]; omega)]; exact b3 q hq⟩
      · simp only [if_neg z]
        obtain ⟨c1, b1, b2, b3⟩ := a4 i (by omega)
        refine ⟨by rw [hF.r (by simp only [Sl', Skl, Sg, Sc, Sv, Sh, Sty]; omega)]; exact c1, by rw [hF.i (by simp only [Sl', Skl, Sg, Sc, Sv, Sh, Sty]; omega)]; exact b1, b2, fun q hq => by rw [hF.i (by simp only [Sl', Skl, Sg, Sc, Sv, Sh, Sty]; omega)]; exact b3 q hq⟩
    · rw [e34, hF.i (by simp only [Sl', Skl, Sg, Sc, Sv, Sh, Sty]; omega)]; exact a5
  · obtain ⟨⟨a1, a2⟩, a3, a4⟩ := hM
    refine ⟨⟨by omega, fun i hi => ?_⟩, fun i hi => ?_, fun k hk => ?_⟩
    · by_cases z : i = N
      · subst z
        simp only [if_true]
        exact ⟨n, T, b, m4, m3, hq, hc⟩
      · simp only [if_neg z]
        obtain ⟨n', T', b', ⟨x1, x2, x3, x4, x5⟩, y2, y3, y4⟩ := a2 i (by omega)
        refine ⟨n', T', b', ⟨x1, x2, x3, fun o ho => ?_, x5⟩, ?_, y3, y4⟩
        · rw [hF.i (by simp only [Sl', Skl, Sg, Sc, Sv, Sh, Sty]; omega)]; exact x4 o ho
        · rw [hF.i (by simp only [Sl', Skl, Sg, Sc, Sv, Sh, Sty]; omega)]; exact y2
    · have e70 : υ.2.1 70 0 i = σ.2.1 70 0 i := (hF 70 0 i (by simp only [Sl', Skl, Sg, Sc, Sv, Sh, Sty]; omega)).2.1
      have e71 : υ.1 71 0 i = σ.1 71 0 i := hF.i (by simp only [Sl', Skl, Sg, Sc, Sv, Sh, Sty]; omega)
      rw [e70, e71]
      rcases a3 i hi with q | ⟨L, m, g, s, p, w, y, q1, q2, q3, q4⟩
      · exact Or.inl q
      · refine Or.inr ⟨L, m, g, s, p, w, y, by omega, q2, q3, ?_⟩
        simp only [if_neg (show ¬ L = N by omega)]
        exact q4
    · have := a4 k hk
      simp only at this ⊢
      rw [hF.i (by simp only [Sl', Skl, Sg, Sc, Sv, Sh, Sty]; omega)]
      exact this
  · exact hP.fr hF (fun k j o q w => by simp only [fP, Sl', Skl, Sg, Sc, Sv, Sh, Sty] at q w; omega)
  · exact hNn.fr hF (fun k j o q w => by simp only [fN, fD, fE, Sl', Skl, Sg, Sc, Sv, Sh, Sty] at q w; omega)
  · exact hG.fr hF (fun k j o q w => by simp only [fG, Sl', Skl, Sg, Sc, Sv, Sh, Sty] at q w; omega)
end KJ
