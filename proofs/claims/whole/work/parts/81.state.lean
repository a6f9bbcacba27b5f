/-! ===== 81 the state: the class's cells and the model's, side by side ===== -/
theorem Ct.ok {d : Nat} {M : jMT} {as : List jV} {σ : jM} {Φ : jPh} (h : (∀ x : Int, (.inl x : jV) ∈ as → inR x) → (∀ k j o, inR (σ.1 k j o)) → Ct d M as σ Φ) : Ct d M as σ Φ :=
  fun l B hC hM ho => h (fun x hx => ho (.inl x) hx) hM.1 l B hC hM ho
def JT (σ : jM) (n : Nat) (T : Nat → Int) : Prop := (∃ (a : Nat) (f : Int), TV σ n T a f) ∧ TM σ n T
def fT : jS := fun k j o => (k = 7 ∧ j = 0) ∨ (k = 40 ∧ j = 0) ∨ (k = 10 ∧ j = 0 ∧ o = 6) ∨ (k = 60 ∧ j = 0)
def JR (σ : jM) (K F r : Nat) : Prop := σ.2.2 9 0 10 = some r ∧ σ.2.2 9 0 11 = some (1 - r) ∧ r < 2 ∧ σ.1 5 r 8 = K ∧ σ.1 5 r 9 = F ∧ σ.1 10 0 26 = K ∧ σ.1 10 0 27 = F ∧ K ≤ 4 ∧ F ≤ 8 ∧ ((K = 0 ∧ F = 0) ∨ (RW K F (σ.1 63 0) (σ.1 66 0) ∧ CR σ r K F (σ.1 63 0) (σ.1 66 0)))
def fR (r : Nat) : jS := fun k j o => (k = 9 ∧ j = 0 ∧ (o = 10 ∨ o = 11)) ∨ (j = r ∧ (k = 5 ∨ (29 ≤ k ∧ k ≤ 32))) ∨ (k = 10 ∧ j = 0 ∧ (o = 26 ∨ o = 27)) ∨ (j = 0 ∧ (k = 63 ∨ k = 66))
def JW (σ : jM) (K F : Nat) : Prop := CW σ 0 K (σ.1 69 0) ∧ WW K 999 (σ.1 69 0) ∧ PF F (σ.1 69 0)
def fW : jS := fun k j _ => j = 0 ∧ (k = 8 ∨ (41 ≤ k ∧ k ≤ 48) ∨ k = 69)
def UM (σ : jM) (U : List (Nat → Int)) : Prop := σ.1 10 0 39 = U.length ∧ ∀ i, i < U.length → ∀ p, p < 291 → σ.1 72 0 (291 * i + p) = U.getD i (fun _ => 0) p
def JA (σ : jM) (K F : Nat) (U : List (Nat → Int)) : Prop := AK σ K U ∧ (∀ V ∈ U, WW K 999 V ∧ PF F V) ∧ UM σ U
def fC : jS := fun k j _ => (k = 0 ∧ j = 0) ∨ (3 ≤ j ∧ j < 43 ∧ (k = 8 ∨ (41 ≤ k ∧ k ≤ 48)))
def fU : jS := fun k j o => (k = 72 ∧ j = 0) ∨ (k = 10 ∧ j = 0 ∧ o = 39)
def fA : jS := fun k j o => fC k j o ∨ fU k j o
def JI (σ : jM) (K F : Nat) : Prop := (σ.1 9 0 1 = 0 ∧ σ.1 10 0 47 = 0) ∨ (σ.1 9 0 1 = 1 ∧ σ.1 10 0 47 = 1 ∧ CW σ 2 K (σ.1 77 0) ∧ WW K 999 (σ.1 77 0) ∧ PF F (σ.1 77 0))
def fI : jS := fun k j o => (k = 9 ∧ j = 0 ∧ o = 1) ∨ (k = 10 ∧ j = 0 ∧ o = 47) ∨ (j = 2 ∧ (k = 8 ∨ (41 ≤ k ∧ k ≤ 48))) ∨ (k = 77 ∧ j = 0)
def JK (σ : jM) (N : Nat) (CL : Nat → List Int) : Prop := σ.1 9 0 14 = N ∧ σ.1 10 0 7 = N ∧ σ.2.2 9 0 12 = some N ∧ (∀ i, i < N → σ.2.2 49 0 i = some i ∧ LV σ i (CL i)) ∧ σ.1 9 0 16 = σ.1 10 0 34 ∧ -1 ≤ σ.1 10 0 34 ∧ σ.1 10 0 34 < N
def fK (N : Nat) : jS := fun k j o => (k = 9 ∧ j = 0 ∧ (o = 14 ∨ o = 12 ∨ o = 16)) ∨ (k = 10 ∧ j = 0 ∧ (o = 7 ∨ o = 34)) ∨ (k = 49 ∧ j = 0) ∨ (j < N ∧ (k = 3 ∨ k = 23))
def fM : jS := fun k j _ => (k = 60 ∧ j = 1) ∨ (j = 0 ∧ (k = 61 ∨ k = 62 ∨ k = 70 ∨ k = 71))
def PSt (s : Int × Int) : Prop := (s.1 = 0 ∧ s.2 = -1) ∨ ((1 ≤ s.1 ∧ s.1 ≤ 3) ∧ 0 ≤ s.2 ∧ s.2 ≤ 9)
def JP (σ : jM) (P : Nat) (PL : Nat → List (Int × Int)) : Prop := P ≤ 4 ∧ σ.1 9 0 15 = P ∧ σ.1 10 0 30 = P ∧ σ.2.2 9 0 13 = some P ∧ ∀ i, i < P → σ.2.2 50 0 i = some i ∧ PV σ i (PL i) ∧ σ.1 68 0 i = (PL i).length ∧ (∀ q, q < (PL i).length → σ.1 67 0 (32 * i + 2 * q) = ((PL i).getD q (0, 0)).1 ∧ σ.1 67 0 (32 * i + 2 * q + 1) = ((PL i).getD q (0, 0)).2) ∧ ∀ s ∈ PL i, PSt s
def fP (P : Nat) : jS := fun k j o => (k = 9 ∧ j = 0 ∧ (o = 15 ∨ o = 13)) ∨ (k = 10 ∧ j = 0 ∧ o = 30) ∨ (k = 50 ∧ j = 0) ∨ (j < P ∧ (k = 1 ∨ k = 21 ∨ k = 22)) ∨ (k = 68 ∧ j = 0 ∧ o < 4) ∨ (k = 67 ∧ j = 0 ∧ o < 128)
def MN (σ : jM) (nt : List jN) : Prop := σ.1 10 0 44 = nt.length ∧ ∀ i, i < nt.length → σ.1 73 0 (3 * i) = (nt.getD i (0, 0, 0)).1 ∧ σ.1 73 0 (3 * i + 1) = (nt.getD i (0, 0, 0)).2.1 ∧ σ.1 73 0 (3 * i + 2) = (nt.getD i (0, 0, 0)).2.2
def JN (σ : jM) (K F : Nat) (nt : List jN) : Prop := UC σ K nt ∧ (∀ q ∈ nt, q.1 < K ∧ q.2.1 < F) ∧ MN σ nt
def fD : jS := fun k j _ => j = 0 ∧ (k = 6 ∨ (34 ≤ k ∧ k ≤ 36) ∨ k = 39)
def fE : jS := fun k j o => (k = 10 ∧ j = 0 ∧ o = 44) ∨ (k = 73 ∧ j = 0)
def fN : jS := fun k j o => fD k j o ∨ fE k j o
def JG (σ : jM) : Prop := σ.1 9 0 17 = σ.1 10 0 35 ∧ 0 ≤ σ.1 10 0 35 ∧ σ.1 10 0 35 ≤ 9
def fG : jS := fun k j o => (k = 9 ∧ j = 0 ∧ o = 17) ∨ (k = 10 ∧ j = 0 ∧ o = 35)
section FRS
variable {S : jS} {σ τ : jM}
theorem Fr.no {f : jS} (_ : Fr S σ τ) (hs : ∀ k j o, f k j o → ¬ S k j o) {k j o : Nat} (hf : f k j o) : ¬ S k j o := hs k j o hf
theorem JT.fr {n : Nat} {T : Nat → Int} (hF : Fr S σ τ) (hs : ∀ k j o, fT k j o → ¬ S k j o) (h : JT σ n T) : JT τ n T := by
  obtain ⟨⟨a, f, h1, h2, h3, h4, h5⟩, h6, h7⟩ := h
  have e : ∀ o, τ.1 7 0 o = σ.1 7 0 o := fun o => hF.i (hs _ _ _ (by unfold fT; omega))
  refine ⟨⟨a, f, h1, by rw [e]; exact h2, fun i hi => by rw [hF.i (hs _ _ _ (by unfold fT; omega))]; exact h3 i hi, by rw [e]; exact h4, by rw [e]; exact h5⟩, h6.fr hF (fun o => hs _ _ _ (by unfold fT; omega)), by rw [hF.i (hs _ _ _ (by unfold fT; omega))]; exact h7⟩
theorem JR.fr {K F r : Nat} (hF : Fr S σ τ) (hs : ∀ k j o, fR r k j o → ¬ S k j o) (h : JR σ K F r) : JR τ K F r := by
  obtain ⟨h1, h2, h3, h4, h5, h6, h7, h8, h9, h10⟩ := h
  have e : ∀ o, τ.1 5 r o = σ.1 5 r o := fun o => hF.i (hs _ _ _ (by unfold fR; omega))
  have e63 : τ.1 63 0 = σ.1 63 0 := hF.row (fun o => hs _ _ _ (by unfold fR; omega))
  have e66 : τ.1 66 0 = σ.1 66 0 := hF.row (fun o => hs _ _ _ (by unfold fR; omega))
  refine ⟨by rw [hF.r (hs _ _ _ (by unfold fR; omega))]; exact h1, by rw [hF.r (hs _ _ _ (by unfold fR; omega))]; exact h2, h3, by rw [e]; exact h4, by rw [e]; exact h5, by rw [hF.i (hs _ _ _ (by unfold fR; omega))]; exact h6, by rw [hF.i (hs _ _ _ (by unfold fR; omega))]; exact h7, h8, h9, ?_⟩
  rw [e63, e66]
  rcases h10 with q | ⟨q1, q2⟩
  · exact Or.inl q
  · exact Or.inr ⟨q1, q2.fr hF (fun k o w => hs _ _ _ (by unfold fR; omega))⟩
theorem JW.fr {K F : Nat} (hF : Fr S σ τ) (hs : ∀ k j o, fW k j o → ¬ S k j o) (h : JW σ K F) : JW τ K F := by
  have e : τ.1 69 0 = σ.1 69 0 := hF.row (fun o => hs _ _ _ (by unfold fW; omega))
  unfold JW
  rw [e]
  exact ⟨h.1.fr hF (fun k o w => hs _ _ _ (by unfold fW; omega)), h.2⟩
theorem AK.fr {K : Nat} {U : List (Nat → Int)} (hF : Fr S σ τ) (hs : ∀ k j o, fC k j o → ¬ S k j o) (h : AK σ K U) : AK τ K U := by
  obtain ⟨h1, h2, nx, h3, h4, h5⟩ := h
  refine ⟨h1, by rw [hF.i (hs _ _ _ (by unfold fC; omega))]; exact h2, nx, h3, by rw [hF.i (hs _ _ _ (by unfold fC; omega))]; exact h4, fun i hi => (h5 i hi).fr hF (fun k o w => hs _ _ _ (by unfold fC; omega))⟩
theorem UM.fr {U : List (Nat → Int)} (hF : Fr S σ τ) (hs : ∀ k j o, fU k j o → ¬ S k j o) (h : UM σ U) : UM τ U := by
  obtain ⟨h1, h2⟩ := h
  refine ⟨by rw [hF.i (hs _ _ _ (by unfold fU; omega))]; exact h1, fun i hi p hp => by rw [hF.i (hs _ _ _ (by unfold fU; omega))]; exact h2 i hi p hp⟩
theorem JA.fr {K F : Nat} {U : List (Nat → Int)} (hF : Fr S σ τ) (hs : ∀ k j o, fA k j o → ¬ S k j o) (h : JA σ K F U) : JA τ K F U := ⟨h.1.fr hF (fun k j o q => hs k j o (Or.inl q)), h.2.1, h.2.2.fr hF (fun k j o q => hs k j o (Or.inr q))⟩
theorem JI.fr {K F : Nat} (hF : Fr S σ τ) (hs : ∀ k j o, fI k j o → ¬ S k j o) (h : JI σ K F) : JI τ K F := by
  have e : τ.1 77 0 = σ.1 77 0 := hF.row (fun o => hs _ _ _ (by unfold fI; omega))
  unfold JI
  rw [e, hF.i (hs 9 0 1 (by unfold fI; omega)), hF.i (hs 10 0 47 (by unfold fI; omega))]
  rcases h with q | ⟨q1, q2, q3, q4⟩
  · exact Or.inl q
  · exact Or.inr ⟨q1, q2, q3.fr hF (fun k o w => hs _ _ _ (by unfold fI; omega)), q4⟩
theorem LV.fr {l : Nat} {c : List Int} (hF : Fr S σ τ) (hs : ∀ o, ¬ S 3 l o) (hs2 : ∀ o, ¬ S 23 l o) (h : LV σ l c) : LV τ l c := by
  obtain ⟨h1, h2, h3⟩ := h
  exact ⟨by rw [hF.i (hs _)]; exact h1, h2, fun i hi => by rw [hF.i (hs2 _)]; exact h3 i hi⟩
theorem JK.fr {N : Nat} {CL : Nat → List Int} (hF : Fr S σ τ) (hs : ∀ k j o, fK N k j o → ¬ S k j o) (h : JK σ N CL) : JK τ N CL := by
  obtain ⟨h1, h2, h3, h4, h5, h6, h7⟩ := h
  have e34 : τ.1 10 0 34 = σ.1 10 0 34 := hF.i (hs _ _ _ (by unfold fK; omega))
  refine ⟨by rw [hF.i (hs _ _ _ (by unfold fK; omega))]; exact h1, by rw [hF.i (hs _ _ _ (by unfold fK; omega))]; exact h2, by rw [hF.r (hs _ _ _ (by unfold fK; omega))]; exact h3, fun i hi => ⟨by rw [hF.r (hs _ _ _ (by unfold fK; omega))]; exact (h4 i hi).1, (h4 i hi).2.fr hF (fun o => hs _ _ _ (by unfold fK; omega)) (fun o => hs _ _ _ (by unfold fK; omega))⟩, by rw [e34, hF.i (hs 9 0 16 (by unfold fK; omega))]; exact h5, by rw [e34]; exact h6, by rw [e34]; exact h7⟩
theorem MI.fr {N : Nat} {CL : Nat → List Int} (hF : Fr S σ τ) (hs : ∀ k j o, fM k j o → ¬ S k j o) (h : MI σ N CL) : MI τ N CL := by
  obtain ⟨h1, h2, h3⟩ := h
  refine ⟨h1.fr hF (fun o => hs _ _ _ (by unfold fM; omega)) (fun o => hs _ _ _ (by unfold fM; omega)), fun i hi => ?_, fun k hk => ?_⟩
  · rw [hF.l (hs 70 0 i (by unfold fM; omega)), hF.i (hs 71 0 i (by unfold fM; omega))]
    exact h2 i hi
  · show -1000000 ≤ τ.1 62 0 _ ∧ τ.1 62 0 _ ≤ 1000000
    rw [hF.i (hs 62 0 _ (by unfold fM; omega))]
    exact h3 k hk
theorem PV.fr {c : Nat} {l : List (Int × Int)} (hF : Fr S σ τ) (hs : ∀ k o, k = 1 ∨ k = 21 ∨ k = 22 → ¬ S k c o) (h : PV σ c l) : PV τ c l := by
  obtain ⟨h1, h2, h3⟩ := h
  refine ⟨by rw [hF.i (hs _ _ (by omega))]; exact h1, h2, fun i hi => ?_⟩
  rw [hF.i (hs 21 i (by omega)), hF.i (hs 22 i (by omega))]
  exact h3 i hi
theorem JP.fr {P : Nat} {PL : Nat → List (Int × Int)} (hF : Fr S σ τ) (hs : ∀ k j o, fP P k j o → ¬ S k j o) (h : JP σ P PL) : JP τ P PL := by
  obtain ⟨h0, h1, h2, h3, h4⟩ := h
  refine ⟨h0, by rw [hF.i (hs _ _ _ (by unfold fP; omega))]; exact h1, by rw [hF.i (hs _ _ _ (by unfold fP; omega))]; exact h2, by rw [hF.r (hs _ _ _ (by unfold fP; omega))]; exact h3, fun i hi => ?_⟩
  obtain ⟨g1, g2, g3, g4, g5⟩ := h4 i hi
  have l16 := g2.2.1
  refine ⟨by rw [hF.r (hs _ _ _ (by unfold fP; omega))]; exact g1, g2.fr hF (fun k o w => hs _ _ _ (by unfold fP; omega)), by rw [hF.i (hs _ _ _ (by unfold fP; omega))]; exact g3, fun q hq => ?_, g5⟩
  rw [hF.i (hs 67 0 (32 * i + 2 * q) (by unfold fP; omega)), hF.i (hs 67 0 (32 * i + 2 * q + 1) (by unfold fP; omega))]
  exact g4 q hq
theorem MN.fr {nt : List jN} (hF : Fr S σ τ) (hs : ∀ k j o, fE k j o → ¬ S k j o) (h : MN σ nt) : MN τ nt := by
  obtain ⟨h1, h2⟩ := h
  refine ⟨by rw [hF.i (hs _ _ _ (by unfold fE; omega))]; exact h1, fun i hi => ?_⟩
  rw [hF.i (hs 73 0 (3 * i) (by unfold fE; omega)), hF.i (hs 73 0 (3 * i + 1) (by unfold fE; omega)), hF.i (hs 73 0 (3 * i + 2) (by unfold fE; omega))]
  exact h2 i hi
theorem UC.fr {K : Nat} {nt : List jN} (hF : Fr S σ τ) (hs : ∀ k j o, fD k j o → ¬ S k j o) (h : UC σ K nt) : UC τ K nt := by
  obtain ⟨h1, h2, h3, h4, h5⟩ := h
  refine ⟨h1, h2.fr hF (fun k o w => hs _ _ _ (by unfold fD; omega)), by rw [hF.i (hs _ _ _ (by unfold fD; omega))]; exact h3, fun k hk => by rw [hF.i (hs _ _ _ (by unfold fD; omega))]; exact h4 k hk, by rw [hF.i (hs _ _ _ (by unfold fD; omega))]; exact h5⟩
theorem JN.fr {K F : Nat} {nt : List jN} (hF : Fr S σ τ) (hs : ∀ k j o, fN k j o → ¬ S k j o) (h : JN σ K F nt) : JN τ K F nt := ⟨h.1.fr hF (fun k j o q => hs k j o (Or.inl q)), h.2.1, h.2.2.fr hF (fun k j o q => hs k j o (Or.inr q))⟩
theorem JG.fr (hF : Fr S σ τ) (hs : ∀ k j o, fG k j o → ¬ S k j o) (h : JG σ) : JG τ := by
  unfold JG
  rw [hF.i (hs 9 0 17 (by unfold fG; omega)), hF.i (hs 10 0 35 (by unfold fG; omega))]
  exact h
end FRS
/-- the whole state -/
def Jx (σ : jM) (n : Nat) (T : Nat → Int) (K F r N P : Nat) (CL : Nat → List Int) (PL : Nat → List (Int × Int)) (U : List (Nat → Int)) (nt : List jN) : Prop :=
  JT σ n T ∧ JR σ K F r ∧ JW σ K F ∧ JA σ K F U ∧ JI σ K F ∧ JK σ N CL ∧ MI σ N CL ∧ JP σ P PL ∧ JN σ K F nt ∧ JG σ
def J (q : Nat × Nat) (σ : jM) : Prop := ∃ n T K F r N P CL PL U nt, (N, P) = q ∧ Jx σ n T K F r N P CL PL U nt
/-- places that the state doesn't speak of -/
def Sc : jS := fun k j o => (k = 10 ∧ j = 0 ∧ (o = 0 ∨ o = 5 ∨ (8 ≤ o ∧ o ≤ 14) ∨ o = 17 ∨ o = 28 ∨ o = 29 ∨ o = 31 ∨ o = 40)) ∨ k = 64 ∨ k = 65 ∨ (k = 69 ∧ j = 1) ∨ k = 74 ∨ k = 75 ∨ k = 76 ∨ (j = 1 ∧ (k = 8 ∨ (41 ≤ k ∧ k ≤ 48))) ∨ k = 2 ∨ k = 4 ∨ k = 24 ∨ k = 25 ∨ k = 37 ∨ k = 38 ∨ k = 51
/-- the same, with the model's memory of worths -/
def Sd : jS := fun k j o => Sc k j o ∨ (j = 0 ∧ (k = 62 ∨ k = 70 ∨ k = 71))
section JS
variable {σ τ : jM} {n : Nat} {T : Nat → Int} {K F r N P : Nat} {CL : Nat → List Int} {PL : Nat → List (Int × Int)} {U : List (Nat → Int)} {nt : List jN}
theorem Jx.sd (h : Jx σ n T K F r N P CL PL U nt) (hF : Fr Sd σ τ) (hM : MI τ N CL) : Jx τ n T K F r N P CL PL U nt := by
  obtain ⟨h1, h2, h3, h4, h5, h6, h7, h8, h9, h10⟩ := h
  have r2 := h2.2.2.1
  refine ⟨h1.fr hF ?_, h2.fr hF ?_, h3.fr hF ?_, h4.fr hF ?_, h5.fr hF ?_, h6.fr hF ?_, hM, h8.fr hF ?_, h9.fr hF ?_, h10.fr hF ?_⟩
  · intro k j o q w; unfold fT at q; unfold Sd Sc at w; omega
  · intro k j o q w; unfold fR at q; unfold Sd Sc at w; omega
  · intro k j o q w; unfold fW at q; unfold Sd Sc at w; omega
  · intro k j o q w; unfold fA fC fU at q; unfold Sd Sc at w; omega
  · intro k j o q w; unfold fI at q; unfold Sd Sc at w; omega
  · intro k j o q w; unfold fK at q; unfold Sd Sc at w; omega
  · intro k j o q w; unfold fP at q; unfold Sd Sc at w; omega
  · intro k j o q w; unfold fN fD fE at q; unfold Sd Sc at w; omega
  · intro k j o q w; unfold fG at q; unfold Sd Sc at w; omega
theorem Jx.sc (h : Jx σ n T K F r N P CL PL U nt) (hF : Fr Sc σ τ) : Jx τ n T K F r N P CL PL U nt := by
  refine h.sd (hF.wk (fun _ _ _ q => Or.inl q)) (h.2.2.2.2.2.2.1.fr hF ?_)
  intro k j o q w; unfold fM at q; unfold Sc at w; omega
end JS
theorem J.sc {q : Nat × Nat} {σ τ : jM} (h : J q σ) (hF : Fr Sc σ τ) : J q τ := by
  obtain ⟨n, T, K, F, r, N, P, CL, PL, U, nt, e, h⟩ := h
  exact ⟨n, T, K, F, r, N, P, CL, PL, U, nt, e, h.sc hF⟩
/-- a call of the class and the same call of the model answer alike, and the state stands again -/
def Pr (M1 M2 : jMT) (as : List jV) : Prop := ∀ σ q, J q σ → Ct 60 M1 (rf 9 0 :: as) σ (fun x τ => (∃ v : Int, x = some (.inl v)) ∧ Ct 60 M2 (rf 10 0 :: as) τ (fun y τ' => y = x ∧ J q τ'))
theorem th_sc {σ : jM} {v : Int} : Fr Sc σ (sI σ 10 0 0 v) := Fr.rf.sI (by unfold Sc; omega)
section Q
variable {σ : jM} {Φ : jPh} {d K F r : Nat}
theorem ok_LB_isKingdom {k : Int} (h : JR σ K F r) (hp : Φ (some (.inl (if 0 ≤ k ∧ k < K then 1 else 0))) σ) : Ct (d + 1) M_LB_isKingdom [rf 9 0, .inl k] σ Φ := by
  refine i_LB_isKingdom (Nat.le_refl 2) ?_
  simp only [w_LB_isKingdom_20, w_LB_isKingdom_19, w_LB_isKingdom_0, c_ic, c_lc, c_nul, c_il, c_ll, c_al, c_is, c_ls, c_as, c_inc, c_b2, c_b2n, c_b1, c_d2, c_d2n, c_dsh, c_i2l, c_l2i, c_lcm, c_dup, c_dup2, c_pop, c_j1, c_j2, c_jn, c_sw0, c_sw, c_gI, c_gL, c_gR, c_gS, c_pI, c_pZ, c_pL, c_pR, c_iald, c_ialg, c_iast, c_iasg, c_bald, c_bast, c_lald, c_last, c_aald, c_aals, c_aast, c_alen, c_bnd, c_str, c_bndl, c_bnln, c_sval, c_scod, c_sbal, c_sbln, c_fmt, c_stop, c_iret, c_zret, c_nret, c_aret, c_vret, c_lret, c_cpy, c_callV, c_callS, tkA, lget, lput, lkill, jpush, vsz, jcat, lins, lent, List.length_cons, List.length_nil, List.replicate, List.append_nil, List.cons_append, List.nil_append, reduceIte, Nat.reduceAdd, Nat.reduceSub, Nat.reduceEqDiff, true_and, and_true, Nat.reduceLeDiff, Nat.lt_irrefl, Nat.succ_ne_self, forall_const, ne_eq, not_true_eq_false, not_false_eq_true, false_implies, implies_true, true_implies, true_or, or_true, or_false, false_or, eq_self, Int.reduceEq, Int.reduceLT, Int.reduceLE, Int.reduceNeg, Int.reduceToNat, Int.reduceAdd, Int.reduceSub, Int.reduceMul, Int.reduceNe, and_self, h.1, h.2.2.2.1]
  refine ⟨fun z => ?_, fun z => ⟨fun z2 => ?_, fun z2 => ?_⟩⟩
  · rwa [if_neg (by omega)] at hp
  · rwa [if_neg (by omega)] at hp
  · rwa [if_pos (by omega)] at hp
theorem ok_LB_isField {k : Int} (h : JR σ K F r) (hp : Φ (some (.inl (if 0 ≤ k ∧ k < F then 1 else 0))) σ) : Ct (d + 1) M_LB_isField [rf 9 0, .inl k] σ Φ := by
  refine i_LB_isField (Nat.le_refl 2) ?_
  simp only [w_LB_isField_20, w_LB_isField_19, w_LB_isField_0, c_ic, c_lc, c_nul, c_il, c_ll, c_al, c_is, c_ls, c_as, c_inc, c_b2, c_b2n, c_b1, c_d2, c_d2n, c_dsh, c_i2l, c_l2i, c_lcm, c_dup, c_dup2, c_pop, c_j1, c_j2, c_jn, c_sw0, c_sw, c_gI, c_gL, c_gR, c_gS, c_pI, c_pZ, c_pL, c_pR, c_iald, c_ialg, c_iast, c_iasg, c_bald, c_bast, c_lald, c_last, c_aald, c_aals, c_aast, c_alen, c_bnd, c_str, c_bndl, c_bnln, c_sval, c_scod, c_sbal, c_sbln, c_fmt, c_stop, c_iret, c_zret, c_nret, c_aret, c_vret, c_lret, c_cpy, c_callV, c_callS, tkA, lget, lput, lkill, jpush, vsz, jcat, lins, lent, List.length_cons, List.length_nil, List.replicate, List.append_nil, List.cons_append, List.nil_append, reduceIte, Nat.reduceAdd, Nat.reduceSub, Nat.reduceEqDiff, true_and, and_true, Nat.reduceLeDiff, Nat.lt_irrefl, Nat.succ_ne_self, forall_const, ne_eq, not_true_eq_false, not_false_eq_true, false_implies, implies_true, true_implies, true_or, or_true, or_false, false_or, eq_self, Int.reduceEq, Int.reduceLT, Int.reduceLE, Int.reduceNeg, Int.reduceToNat, Int.reduceAdd, Int.reduceSub, Int.reduceMul, Int.reduceNe, and_self, h.1, h.2.2.2.2.1]
  refine ⟨fun z => ?_, fun z => ⟨fun z2 => ?_, fun z2 => ?_⟩⟩
  · rwa [if_neg (by omega)] at hp
  · rwa [if_neg (by omega)] at hp
  · rwa [if_pos (by omega)] at hp
theorem ok_LB_hasRealm (h : JR σ K F r) (hp : Φ (some (.inl (if 0 < K then 1 else 0))) σ) : Ct (d + 1) M_LB_hasRealm [rf 9 0] σ Φ := by
  refine i_LB_hasRealm (Nat.le_refl 1) ?_
  simp only [w_LB_hasRealm_15, w_LB_hasRealm_14, w_LB_hasRealm_0, c_ic, c_lc, c_nul, c_il, c_ll, c_al, c_is, c_ls, c_as, c_inc, c_b2, c_b2n, c_b1, c_d2, c_d2n, c_dsh, c_i2l, c_l2i, c_lcm, c_dup, c_dup2, c_pop, c_j1, c_j2, c_jn, c_sw0, c_sw, c_gI, c_gL, c_gR, c_gS, c_pI, c_pZ, c_pL, c_pR, c_iald, c_ialg, c_iast, c_iasg, c_bald, c_bast, c_lald, c_last, c_aald, c_aals, c_aast, c_alen, c_bnd, c_str, c_bndl, c_bnln, c_sval, c_scod, c_sbal, c_sbln, c_fmt, c_stop, c_iret, c_zret, c_nret, c_aret, c_vret, c_lret, c_cpy, c_callV, c_callS, tkA, lget, lput, lkill, jpush, vsz, jcat, lins, lent, List.length_cons, List.length_nil, List.replicate, List.append_nil, List.cons_append, List.nil_append, reduceIte, Nat.reduceAdd, Nat.reduceSub, Nat.reduceEqDiff, true_and, and_true, Nat.reduceLeDiff, Nat.lt_irrefl, Nat.succ_ne_self, forall_const, ne_eq, not_true_eq_false, not_false_eq_true, false_implies, implies_true, true_implies, true_or, or_true, or_false, false_or, eq_self, Int.reduceEq, Int.reduceLT, Int.reduceLE, Int.reduceNeg, Int.reduceToNat, Int.reduceAdd, Int.reduceSub, Int.reduceMul, Int.reduceNe, and_self, h.1, h.2.2.2.1]
  refine ⟨fun z => ?_, fun z => ?_⟩
  · rwa [if_neg (by omega)] at hp
  · rwa [if_pos (by omega)] at hp
theorem ok_MO_isKingdom {k : Int} (h : σ.1 10 0 26 = K) (hp : Φ (some (.inl (if 0 ≤ k ∧ k < K then 1 else 0))) σ) : Ct (d + 1) M_MO_isKingdom [rf 10 0, .inl k] σ Φ := by
  refine i_MO_isKingdom (Nat.le_refl 2) ?_
  simp only [w_MO_isKingdom_17, w_MO_isKingdom_16, w_MO_isKingdom_0, c_ic, c_lc, c_nul, c_il, c_ll, c_al, c_is, c_ls, c_as, c_inc, c_b2, c_b2n, c_b1, c_d2, c_d2n, c_dsh, c_i2l, c_l2i, c_lcm, c_dup, c_dup2, c_pop, c_j1, c_j2, c_jn, c_sw0, c_sw, c_gI, c_gL, c_gR, c_gS, c_pI, c_pZ, c_pL, c_pR, c_iald, c_ialg, c_iast, c_iasg, c_bald, c_bast, c_lald, c_last, c_aald, c_aals, c_aast, c_alen, c_bnd, c_str, c_bndl, c_bnln, c_sval, c_scod, c_sbal, c_sbln, c_fmt, c_stop, c_iret, c_zret, c_nret, c_aret, c_vret, c_lret, c_cpy, c_callV, c_callS, tkA, lget, lput, lkill, jpush, vsz, jcat, lins, lent, List.length_cons, List.length_nil, List.replicate, List.append_nil, List.cons_append, List.nil_append, reduceIte, Nat.reduceAdd, Nat.reduceSub, Nat.reduceEqDiff, true_and, and_true, Nat.reduceLeDiff, Nat.lt_irrefl, Nat.succ_ne_self, forall_const, ne_eq, not_true_eq_false, not_false_eq_true, false_implies, implies_true, true_implies, true_or, or_true, or_false, false_or, eq_self, Int.reduceEq, Int.reduceLT, Int.reduceLE, Int.reduceNeg, Int.reduceToNat, Int.reduceAdd, Int.reduceSub, Int.reduceMul, Int.reduceNe, and_self, h]
  refine ⟨fun z => ?_, fun z => ⟨fun z2 => ?_, fun z2 => ?_⟩⟩
  · rwa [if_neg (by omega)] at hp
  · rwa [if_neg (by omega)] at hp
  · rwa [if_pos (by omega)] at hp
theorem ok_MO_isField {k : Int} (h : σ.1 10 0 27 = F) (hp : Φ (some (.inl (if 0 ≤ k ∧ k < F then 1 else 0))) σ) : Ct (d + 1) M_MO_isField [rf 10 0, .inl k] σ Φ := by
  refine i_MO_isField (Nat.le_refl 2) ?_
  simp only [w_MO_isField_17, w_MO_isField_16, w_MO_isField_0, c_ic, c_lc, c_nul, c_il, c_ll, c_al, c_is, c_ls, c_as, c_inc, c_b2, c_b2n, c_b1, c_d2, c_d2n, c_dsh, c_i2l, c_l2i, c_lcm, c_dup, c_dup2, c_pop, c_j1, c_j2, c_jn, c_sw0, c_sw, c_gI, c_gL, c_gR, c_gS, c_pI, c_pZ, c_pL, c_pR, c_iald, c_ialg, c_iast, c_iasg, c_bald, c_bast, c_lald, c_last, c_aald, c_aals, c_aast, c_alen, c_bnd, c_str, c_bndl, c_bnln, c_sval, c_scod, c_sbal, c_sbln, c_fmt, c_stop, c_iret, c_zret, c_nret, c_aret, c_vret, c_lret, c_cpy, c_callV, c_callS, tkA, lget, lput, lkill, jpush, vsz, jcat, lins, lent, List.length_cons, List.length_nil, List.replicate, List.append_nil, List.cons_append, List.nil_append, reduceIte, Nat.reduceAdd, Nat.reduceSub, Nat.reduceEqDiff, true_and, and_true, Nat.reduceLeDiff, Nat.lt_irrefl, Nat.succ_ne_self, forall_const, ne_eq, not_true_eq_false, not_false_eq_true, false_implies, implies_true, true_implies, true_or, or_true, or_false, false_or, eq_self, Int.reduceEq, Int.reduceLT, Int.reduceLE, Int.reduceNeg, Int.reduceToNat, Int.reduceAdd, Int.reduceSub, Int.reduceMul, Int.reduceNe, and_self, h]
  refine ⟨fun z => ?_, fun z => ⟨fun z2 => ?_, fun z2 => ?_⟩⟩
  · rwa [if_neg (by omega)] at hp
  · rwa [if_neg (by omega)] at hp
  · rwa [if_pos (by omega)] at hp
theorem ok_MO_isPlan {k : Int} {P : Nat} (h : σ.1 10 0 30 = P) (hp : Φ (some (.inl (if 0 ≤ k ∧ k < P then 1 else 0))) σ) : Ct (d + 1) M_MO_isPlan [rf 10 0, .inl k] σ Φ := by
  refine i_MO_isPlan (Nat.le_refl 2) ?_
  simp only [w_MO_isPlan_17, w_MO_isPlan_16, w_MO_isPlan_0, c_ic, c_lc, c_nul, c_il, c_ll, c_al, c_is, c_ls, c_as, c_inc, c_b2, c_b2n, c_b1, c_d2, c_d2n, c_dsh, c_i2l, c_l2i, c_lcm, c_dup, c_dup2, c_pop, c_j1, c_j2, c_jn, c_sw0, c_sw, c_gI, c_gL, c_gR, c_gS, c_pI, c_pZ, c_pL, c_pR, c_iald, c_ialg, c_iast, c_iasg, c_bald, c_bast, c_lald, c_last, c_aald, c_aals, c_aast, c_alen, c_bnd, c_str, c_bndl, c_bnln, c_sval, c_scod, c_sbal, c_sbln, c_fmt, c_stop, c_iret, c_zret, c_nret, c_aret, c_vret, c_lret, c_cpy, c_callV, c_callS, tkA, lget, lput, lkill, jpush, vsz, jcat, lins, lent, List.length_cons, List.length_nil, List.replicate, List.append_nil, List.cons_append, List.nil_append, reduceIte, Nat.reduceAdd, Nat.reduceSub, Nat.reduceEqDiff, true_and, and_true, Nat.reduceLeDiff, Nat.lt_irrefl, Nat.succ_ne_self, forall_const, ne_eq, not_true_eq_false, not_false_eq_true, false_implies, implies_true, true_implies, true_or, or_true, or_false, false_or, eq_self, Int.reduceEq, Int.reduceLT, Int.reduceLE, Int.reduceNeg, Int.reduceToNat, Int.reduceAdd, Int.reduceSub, Int.reduceMul, Int.reduceNe, and_self, h]
  refine ⟨fun z => ?_, fun z => ⟨fun z2 => ?_, fun z2 => ?_⟩⟩
  · rwa [if_neg (by omega)] at hp
  · rwa [if_neg (by omega)] at hp
  · rwa [if_pos (by omega)] at hp
end Q
