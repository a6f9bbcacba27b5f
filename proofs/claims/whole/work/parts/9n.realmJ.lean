/-! ===== 9n text: the state behind a realm ===== -/
section RJ
variable {σ τ υ : jM} {n : Nat} {T : Nat → Int} {K F r N P : Nat} {CL : Nat → List Int} {PL : Nat → List (Int × Int)} {U : List (Nat → Int)} {nt : List jN} {s : RS}
def Sz (r N P : Nat) : jS := fun k j o => Sg r N P k j o ∨ Sfr k j o ∨ Su k j o
theorem W0_0 {K : Nat} {kr : Nat → Int} {c : Int} {p : Nat} (hK : K ≤ 4) (h1 : 16 ≤ p) (h2 : p ≠ 17) : W0 K kr c p = 0 := by
  unfold W0
  rw [if_neg (by omega), if_neg h2]
theorem tJ0 (h : Jx σ n T K F r N P CL PL U nt) (hq : pRealm T n = .inr s) (h1 : Fr (fun k j o => Sg r N P k j o ∨ Sfr k j o) σ τ) (hat : ∃ b : Nat, τ.1 7 0 2 = b) (hf : Fnd τ (1 - r) s) (h2 : Fr Su τ υ) (hm : Mnd υ s) : J (N, P) υ := by
  obtain ⟨hT, hR, hW, hA, hI, hK, hM, hP, hN, hG⟩ := id h
  have r2 := hR.2.2.1
  obtain ⟨hp1, hp2⟩ := pRealm_rg hq
  obtain ⟨f1, f2, f3, f4, f5, f6, f7, f8⟩ := hf
  obtain ⟨m1, m2, m3, m4, m5, m6, m7, m8, m9⟩ := hm
  have hrw := PRo.rw hp1 hp2
  have K4 : s.2.1 ≤ 4 := f3.1
  have F8 : s.2.2.1 ≤ 8 := f3.2.1
  have hF : Fr (Sz r N P) σ υ := (h1.wk (fun k j o q => q.elim Or.inl (fun q => Or.inr (Or.inl q)))).tr (h2.wk (fun k j o q => Or.inr (Or.inr q)))
  have rv : RV υ (1 - r) s := f3.fr h2 (fun k o q w => by simp only [Su, Sh, Stx] at w; omega)
  have cw : CW υ 0 s.2.1 (W0 s.2.1 s.2.2.2.2.1 (s.2.2.2.1 1)) := f4.fr h2 (fun k o q w => by simp only [Su, Sh, Stx] at w; omega)
  have w19 : W0 s.2.1 s.2.2.2.2.1 (s.2.2.2.1 1) 19 = 0 := W0_0 K4 (by decide) (by decide)
  have w110 : W0 s.2.1 s.2.2.2.2.1 (s.2.2.2.1 1) 110 = 0 := W0_0 K4 (by decide) (by decide)
  refine ⟨0, T, s.2.1, s.2.2.1, 1 - r, N, P, CL, PL, [], [], rfl, ?_, ?_, ?_, ?_, ?_, ?_, ?_, ?_, ?_, ?_⟩
  · obtain ⟨b, hb⟩ := hat
    refine ⟨⟨b, υ.1 7 0 3, by omega, ?_, fun i hi => absurd hi (by omega), ?_, rfl⟩, ⟨by omega, by omega, by omega, fun i hi => absurd hi (by omega), fun i hi => absurd hi (by omega)⟩, m1⟩
    · rw [h2.i (by simp only [Su, Sh, Stx]; omega)]; exact f8
    · rw [h2.i (by simp only [Su, Sh, Stx]; omega)]; exact hb
  · refine ⟨?_, ?_, by omega, rv.2.2.1, rv.2.2.2.1, m2, m3, K4, F8, Or.inr ⟨?_, ?_⟩⟩
    · rw [h2.r (by simp only [Su, Sh, Stx]; omega)]; exact f1
    · rw [h2.r (by simp only [Su, Sh, Stx]; omega)]; exact f2
    · obtain ⟨a1, a2, a3, a4, a5⟩ := hrw
      refine ⟨a1, a2, by rw [m7 0 (by decide)]; exact a3, by rw [m7 1 (by decide)]; exact a4, fun f hf => ?_⟩
      rw [m8 (4 * f) (by omega), m8 (4 * f + 1) (by omega), m8 (4 * f + 2) (by omega), m8 (4 * f + 3) (by omega)]
      exact a5 f hf
    · obtain ⟨a1, a2, a3, a4⟩ := rv.cr
      refine ⟨a1, a2, by rw [m7 0 (by decide)]; exact a3, fun f hf => ?_⟩
      rw [m8 (4 * f) (by omega), m8 (4 * f + 1) (by omega), m8 (4 * f + 2) (by omega), m8 (4 * f + 3) (by omega)]
      exact a4 f hf
  · refine ⟨CW.congr K4 (by omega) (by omega) m9 cw, WW.congr K4 m9 (W0_w K4 (by decide) ?_ hp1.2.2.2.1), fun i hi => ?_⟩
    · exact hp1.2.2.2.2.1
    · rw [m9 19 (by decide), w19] at hi
      omega
  · obtain ⟨⟨-, -, nx, a1, a2, -⟩, -, -⟩ := hA
    refine ⟨⟨by simp, ?_, nx, a1, ?_, fun i hi => absurd hi (by simp)⟩, fun V hV => absurd hV (by simp), m4, fun i hi => absurd hi (by simp)⟩
    · rw [h2.i (by simp only [Su, Sh, Stx]; omega)]; exact f5
    · rw [hF.i (by simp only [Sz, Sg, Sc, Sfr, Su, Sh, Stx]; omega)]; exact a2
  · refine Or.inl ⟨?_, m6⟩
    rw [h2.i (by simp only [Su, Sh, Stx]; omega)]; exact f7
  · exact hK.fr hF (fun k j o q w => by simp only [fK, Sz, Sg, Sc, Sfr, Su, Sh, Stx] at q w; omega)
  · exact hM.fr hF (fun k j o q w => by simp only [fM, Sz, Sg, Sc, Sfr, Su, Sh, Stx] at q w; omega)
  · exact hP.fr hF (fun k j o q w => by simp only [fP, Sz, Sg, Sc, Sfr, Su, Sh, Stx] at q w; omega)
  · refine ⟨UC.fr h2 (fun k j o q w => by simp only [fD, Su, Sh, Stx] at q w; omega) f6, fun q hq => absurd hq (by simp), m5, fun i hi => absurd hi (by simp)⟩
  · exact hG.fr hF (fun k j o q w => by simp only [fG, Sz, Sg, Sc, Sfr, Su, Sh, Stx] at q w; omega)
end RJ
