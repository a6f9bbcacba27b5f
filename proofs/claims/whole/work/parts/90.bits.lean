/-! ===== 90 bits: Integer.bitCount, pick ===== -/
theorem land_split {k a b m p : Nat} (hb : b < 2 ^ k) (hp : p < 2 ^ k) : (2 ^ k * a + b) &&& (2 ^ k * m + p) = 2 ^ k * (a &&& m) + (b &&& p) := by
  apply Nat.eq_of_testBit_eq
  intro i
  have hc : b &&& p < 2 ^ k := Nat.lt_of_le_of_lt Nat.and_le_left hb
  rw [Nat.testBit_and, Nat.testBit_two_pow_mul_add a hb, Nat.testBit_two_pow_mul_add m hp, Nat.testBit_two_pow_mul_add (a &&& m) hc]
  split <;> rw [Nat.testBit_and]
def bc1 (x : Nat) : Nat := x - ((x / 2) &&& 1431655765)
def bc2 (x : Nat) : Nat := (x &&& 858993459) + ((x / 4) &&& 858993459)
def bc3 (a : Nat) : Nat := (a + a / 16) &&& 252645135
def bcT (x : Nat) : Nat := (bc3 (bc2 (bc1 x)) + bc3 (bc2 (bc1 x)) / 256 + (bc3 (bc2 (bc1 x)) + bc3 (bc2 (bc1 x)) / 256) / 65536) &&& 63
theorem cut5 {x : Nat} (h : x < 4096) : x &&& 1431655765 = x &&& 1365 := by
  have := land_split (k := 12) (a := 0) (b := x) (m := 349525) (p := 1365) h (by decide)
  simpa using this
theorem cut5b {x : Nat} (h : x < 1048576) : x &&& 1431655765 = x &&& 349525 := by
  have := land_split (k := 20) (a := 0) (b := x) (m := 1365) (p := 349525) h (by decide)
  simpa using this
theorem cut3 {x : Nat} (h : x < 4096) : x &&& 858993459 = x &&& 819 := by
  have := land_split (k := 12) (a := 0) (b := x) (m := 209715) (p := 819) h (by decide)
  simpa using this
theorem cut3b {x : Nat} (h : x < 1048576) : x &&& 858993459 = x &&& 209715 := by
  have := land_split (k := 20) (a := 0) (b := x) (m := 819) (p := 209715) h (by decide)
  simpa using this
theorem bc1_sp {h l : Nat} (hl : l < 4096) (hh : h < 4096) : bc1 (4096 * h + l) = 4096 * bc1 h + bc1 l := by
  unfold bc1
  have e1 : (4096 * h + l) / 2 = 2 ^ 12 * (h / 2) + (2 ^ 11 * (h % 2) + l / 2) := by omega
  have e2 := land_split (k := 12) (a := h / 2) (b := 2 ^ 11 * (h % 2) + l / 2) (m := 349525) (p := 1365) (by omega) (by decide)
  have e3 := land_split (k := 11) (a := h % 2) (b := l / 2) (m := 0) (p := 1365) (by omega) (by decide)
  rw [Nat.and_zero] at e3
  rw [e1, show (1431655765 : Nat) = 2 ^ 12 * 349525 + 1365 by decide, e2, show (1365 : Nat) = 2 ^ 11 * 0 + 1365 by decide, e3]
  have a1 : h / 2 &&& 349525 = h / 2 &&& (2 ^ 12 * 349525 + (2 ^ 11 * 0 + 1365)) := (cut5b (by omega)).symm
  have a2 : l / 2 &&& 1365 = l / 2 &&& (2 ^ 12 * 349525 + (2 ^ 11 * 0 + 1365)) := (cut5 (by omega)).symm
  rw [a1, a2]
  have b1 : h / 2 &&& (2 ^ 12 * 349525 + (2 ^ 11 * 0 + 1365)) ≤ h / 2 := Nat.and_le_left
  have b2 : l / 2 &&& (2 ^ 12 * 349525 + (2 ^ 11 * 0 + 1365)) ≤ l / 2 := Nat.and_le_left
  omega
theorem bc2_sp {h l : Nat} (hl : l < 4096) (hh : h < 4096) : bc2 (4096 * h + l) = 4096 * bc2 h + bc2 l := by
  unfold bc2
  have e1 : (4096 * h + l) / 4 = 2 ^ 12 * (h / 4) + (2 ^ 10 * (h % 4) + l / 4) := by omega
  have e2 := land_split (k := 12) (a := h / 4) (b := 2 ^ 10 * (h % 4) + l / 4) (m := 209715) (p := 819) (by omega) (by decide)
  have e3 := land_split (k := 10) (a := h % 4) (b := l / 4) (m := 0) (p := 819) (by omega) (by decide)
  have e4 := land_split (k := 12) (a := h) (b := l) (m := 209715) (p := 819) (by omega) (by decide)
  have c : (858993459 : Nat) = 2 ^ 12 * 209715 + 819 := by decide
  have c2 : (819 : Nat) = 2 ^ 10 * 0 + 819 := by decide
  rw [Nat.and_zero, ← c2] at e3
  rw [← c] at e2 e4
  rw [e1, e2, e3, show 4096 * h + l = 2 ^ 12 * h + l by omega, e4]
  have a1 := cut3b (x := h / 4) (by omega)
  have a2 := cut3 (x := l / 4) (by omega)
  have a3 := cut3b (x := h) (by omega)
  have a4 := cut3 (x := l) (by omega)
  rw [a1, a2, a3, a4]
  omega
def p4 (y : Nat) : Nat := y % 2 + y / 2 % 2 + y / 4 % 2 + y / 8 % 2
theorem bc2_w : ∀ a : Nat, a < 64 → ∀ b : Nat, b < 64 → bc2 (bc1 (64 * a + b)) = p4 ((64 * a + b) % 16) + 16 * p4 ((64 * a + b) / 16 % 16) + 256 * p4 ((64 * a + b) / 256) := by decide +kernel
theorem bc2_v (l : Nat) (h : l < 4096) : bc2 (bc1 l) = p4 (l % 16) + 16 * p4 (l / 16 % 16) + 256 * p4 (l / 256) := by
  have := bc2_w (l / 64) (by omega) (l % 64) (by omega)
  rwa [show 64 * (l / 64) + l % 64 = l by omega] at this
theorem bc1_le (x : Nat) : bc1 x ≤ x := Nat.sub_le _ _
def fin6 (t0 t1 t2 t3 t4 t5 : Nat) : Nat := (bc3 (4096 * (t3 + 16 * t4 + 256 * t5) + (t0 + 16 * t1 + 256 * t2)) + bc3 (4096 * (t3 + 16 * t4 + 256 * t5) + (t0 + 16 * t1 + 256 * t2)) / 256 + (bc3 (4096 * (t3 + 16 * t4 + 256 * t5) + (t0 + 16 * t1 + 256 * t2)) + bc3 (4096 * (t3 + 16 * t4 + 256 * t5) + (t0 + 16 * t1 + 256 * t2)) / 256) / 65536) &&& 63
theorem fin6_v : ∀ t0, t0 < 5 → ∀ t1, t1 < 5 → ∀ t2, t2 < 5 → ∀ t3, t3 < 5 → ∀ t4, t4 < 5 → ∀ t5, t5 < 5 → fin6 t0 t1 t2 t3 t4 t5 = t0 + t1 + t2 + t3 + t4 + t5 := by decide +kernel
theorem p4_le (y : Nat) : p4 y ≤ 4 := by unfold p4; omega
theorem bcT_v {x : Nat} (h : x < 16777216) : bcT x = p4 (x % 16) + p4 (x / 16 % 16) + p4 (x / 256 % 16) + p4 (x / 4096 % 16) + p4 (x / 65536 % 16) + p4 (x / 1048576 % 16) := by
  have e0 : x = 4096 * (x / 4096) + x % 4096 := by omega
  have b1 := bc1_sp (h := x / 4096) (l := x % 4096) (by omega) (by omega)
  rw [← e0] at b1
  have l1 := bc1_le (x / 4096)
  have l2 := bc1_le (x % 4096)
  have b2 := bc2_sp (h := bc1 (x / 4096)) (l := bc1 (x % 4096)) (by omega) (by omega)
  rw [← b1, bc2_v (x / 4096) (by omega), bc2_v (x % 4096) (by omega)] at b2
  have d0 := p4_le (x % 4096 % 16)
  have d1 := p4_le (x % 4096 / 16 % 16)
  have d2 := p4_le (x % 4096 / 256)
  have d3 := p4_le (x / 4096 % 16)
  have d4 := p4_le (x / 4096 / 16 % 16)
  have d5 := p4_le (x / 4096 / 256)
  rw [show x % 16 = x % 4096 % 16 by omega, show x / 16 % 16 = x % 4096 / 16 % 16 by omega, show x / 256 % 16 = x % 4096 / 256 by omega, show x / 65536 % 16 = x / 4096 / 16 % 16 by omega, show x / 1048576 % 16 = x / 4096 / 256 by omega]
  have key := fin6_v (p4 (x % 4096 % 16)) (by omega) (p4 (x % 4096 / 16 % 16)) (by omega) (p4 (x % 4096 / 256)) (by omega) (p4 (x / 4096 % 16)) (by omega) (p4 (x / 4096 / 16 % 16)) (by omega) (p4 (x / 4096 / 256)) (by omega)
  unfold fin6 at key
  unfold bcT
  rw [b2]
  exact key
theorem p4_m (y : Nat) : p4 (y % 16) = y % 2 + y / 2 % 2 + y / 4 % 2 + y / 8 % 2 := by unfold p4; omega
theorem p4_0 (x : Nat) : p4 (x % 16) = x % 2 + x / 2 % 2 + x / 4 % 2 + x / 8 % 2 := by
  rw [p4_m]
theorem p4_1 (x : Nat) : p4 (x / 16 % 16) = x / 16 % 2 + x / 32 % 2 + x / 64 % 2 + x / 128 % 2 := by
  rw [p4_m, Nat.div_div_eq_div_mul, Nat.div_div_eq_div_mul, Nat.div_div_eq_div_mul]
theorem p4_2 (x : Nat) : p4 (x / 256 % 16) = x / 256 % 2 + x / 512 % 2 + x / 1024 % 2 + x / 2048 % 2 := by
  rw [p4_m, Nat.div_div_eq_div_mul, Nat.div_div_eq_div_mul, Nat.div_div_eq_div_mul]
theorem p4_3 (x : Nat) : p4 (x / 4096 % 16) = x / 4096 % 2 + x / 8192 % 2 + x / 16384 % 2 + x / 32768 % 2 := by
  rw [p4_m, Nat.div_div_eq_div_mul, Nat.div_div_eq_div_mul, Nat.div_div_eq_div_mul]
theorem p4_4 (x : Nat) : p4 (x / 65536 % 16) = x / 65536 % 2 + x / 131072 % 2 + x / 262144 % 2 + x / 524288 % 2 := by
  rw [p4_m, Nat.div_div_eq_div_mul, Nat.div_div_eq_div_mul, Nat.div_div_eq_div_mul]
theorem p4_5 (x : Nat) : p4 (x / 1048576 % 16) = x / 1048576 % 2 + x / 2097152 % 2 + x / 4194304 % 2 + x / 8388608 % 2 := by
  rw [p4_m, Nat.div_div_eq_div_mul, Nat.div_div_eq_div_mul, Nat.div_div_eq_div_mul]
theorem bcT_s {x : Nat} (h : x < 16777216) : ((bcT x : Nat) : Int) = sumF (bt x) 24 := by
  rw [bcT_v h, p4_0, p4_1, p4_2, p4_3, p4_4, p4_5]
  have e0 : bt (x : Int) 0 = ((x % 2 : Nat) : Int) := by rw [btn, Nat.pow_zero, Nat.div_one]
  have e1 : bt (x : Int) 1 = ((x / 2 % 2 : Nat) : Int) := btn x 1
  have e2 : bt (x : Int) 2 = ((x / 4 % 2 : Nat) : Int) := btn x 2
  have e3 : bt (x : Int) 3 = ((x / 8 % 2 : Nat) : Int) := btn x 3
  have e4 : bt (x : Int) 4 = ((x / 16 % 2 : Nat) : Int) := btn x 4
  have e5 : bt (x : Int) 5 = ((x / 32 % 2 : Nat) : Int) := btn x 5
  have e6 : bt (x : Int) 6 = ((x / 64 % 2 : Nat) : Int) := btn x 6
  have e7 : bt (x : Int) 7 = ((x / 128 % 2 : Nat) : Int) := btn x 7
  have e8 : bt (x : Int) 8 = ((x / 256 % 2 : Nat) : Int) := btn x 8
  have e9 : bt (x : Int) 9 = ((x / 512 % 2 : Nat) : Int) := btn x 9
  have e10 : bt (x : Int) 10 = ((x / 1024 % 2 : Nat) : Int) := btn x 10
  have e11 : bt (x : Int) 11 = ((x / 2048 % 2 : Nat) : Int) := btn x 11
  have e12 : bt (x : Int) 12 = ((x / 4096 % 2 : Nat) : Int) := btn x 12
  have e13 : bt (x : Int) 13 = ((x / 8192 % 2 : Nat) : Int) := btn x 13
  have e14 : bt (x : Int) 14 = ((x / 16384 % 2 : Nat) : Int) := btn x 14
  have e15 : bt (x : Int) 15 = ((x / 32768 % 2 : Nat) : Int) := btn x 15
  have e16 : bt (x : Int) 16 = ((x / 65536 % 2 : Nat) : Int) := btn x 16
  have e17 : bt (x : Int) 17 = ((x / 131072 % 2 : Nat) : Int) := btn x 17
  have e18 : bt (x : Int) 18 = ((x / 262144 % 2 : Nat) : Int) := btn x 18
  have e19 : bt (x : Int) 19 = ((x / 524288 % 2 : Nat) : Int) := btn x 19
  have e20 : bt (x : Int) 20 = ((x / 1048576 % 2 : Nat) : Int) := btn x 20
  have e21 : bt (x : Int) 21 = ((x / 2097152 % 2 : Nat) : Int) := btn x 21
  have e22 : bt (x : Int) 22 = ((x / 4194304 % 2 : Nat) : Int) := btn x 22
  have e23 : bt (x : Int) 23 = ((x / 8388608 % 2 : Nat) : Int) := btn x 23
  simp only [sumF, e0, e1, e2, e3, e4, e5, e6, e7, e8, e9, e10, e11, e12, e13, e14, e15, e16, e17, e18, e19, e20, e21, e22, e23]
  generalize x % 2 = a0
  generalize x / 2 % 2 = a1
  generalize x / 4 % 2 = a2
  generalize x / 8 % 2 = a3
  generalize x / 16 % 2 = a4
  generalize x / 32 % 2 = a5
  generalize x / 64 % 2 = a6
  generalize x / 128 % 2 = a7
  generalize x / 256 % 2 = a8
  generalize x / 512 % 2 = a9
  generalize x / 1024 % 2 = a10
  generalize x / 2048 % 2 = a11
  generalize x / 4096 % 2 = a12
  generalize x / 8192 % 2 = a13
  generalize x / 16384 % 2 = a14
  generalize x / 32768 % 2 = a15
  generalize x / 65536 % 2 = a16
  generalize x / 131072 % 2 = a17
  generalize x / 262144 % 2 = a18
  generalize x / 524288 % 2 = a19
  generalize x / 1048576 % 2 = a20
  generalize x / 2097152 % 2 = a21
  generalize x / 4194304 % 2 = a22
  generalize x / 8388608 % 2 = a23
  omega
theorem jush_nat {x s : Nat} (hs : s < 32) (h : x < 2147483648) : jush x s = ((x / 2 ^ s : Nat) : Int) := by
  unfold jush
  rw [of_nat, of_nat, pk_ushrN (by omega) (nI s) s (bs_u s hs), nI_int (Nat.lt_of_le_of_lt (Nat.div_le_self _ _) h)]
theorem jand_nat {x y : Nat} (h : x < 2147483648) : jand x y = ((x &&& y : Nat) : Int) := by
  unfold jand
  rw [of_nat, of_nat, nI_and, nI_int (Nat.lt_of_le_of_lt Nat.and_le_left h)]
theorem bce1 {x : Nat} (h : x < 16777216) : wr ((x : Int) - jand (jush x 1) 1431655765) = ((bc1 x : Nat) : Int) := by
  have l1 : x / 2 &&& 1431655765 ≤ x / 2 := Nat.and_le_left
  have a : jush x 1 = ((x / 2 : Nat) : Int) := jush_nat (x := x) (s := 1) (by decide) (by omega)
  have b : jand ((x / 2 : Nat) : Int) 1431655765 = ((x / 2 &&& 1431655765 : Nat) : Int) := jand_nat (by omega)
  rw [a, b]
  unfold bc1
  generalize x / 2 &&& 1431655765 = q at *
  rw [wr_id (by omega) (by omega)]
  omega
theorem bce2 {y : Nat} (h : y < 16777216) : wr (jand y 858993459 + jand (jush y 2) 858993459) = ((bc2 y : Nat) : Int) := by
  have l2 : y &&& 858993459 ≤ y := Nat.and_le_left
  have l3 : y / 4 &&& 858993459 ≤ y / 4 := Nat.and_le_left
  have a : jush y 2 = ((y / 4 : Nat) : Int) := jush_nat (x := y) (s := 2) (by decide) (by omega)
  have b : jand ((y / 4 : Nat) : Int) 858993459 = ((y / 4 &&& 858993459 : Nat) : Int) := jand_nat (by omega)
  have c : jand y 858993459 = ((y &&& 858993459 : Nat) : Int) := jand_nat (by omega)
  rw [a, b, c]
  unfold bc2
  generalize y / 4 &&& 858993459 = q at *
  generalize y &&& 858993459 = q' at *
  rw [wr_id (by omega) (by omega)]
  omega
theorem bce3 {z : Nat} (h : z < 33554432) : jand (wr ((z : Int) + jush z 4)) 252645135 = ((bc3 z : Nat) : Int) := by
  have a : jush z 4 = ((z / 16 : Nat) : Int) := jush_nat (x := z) (s := 4) (by decide) (by omega)
  have e : wr ((z : Int) + ((z / 16 : Nat) : Int)) = ((z + z / 16 : Nat) : Int) := by rw [wr_id (by omega) (by omega)]; omega
  have b : jand ((z + z / 16 : Nat) : Int) 252645135 = ((z + z / 16 &&& 252645135 : Nat) : Int) := jand_nat (by omega)
  rw [a, e, b]
  rfl
theorem bce4 {w : Nat} (h : w < 67108864) : wr ((w : Int) + jush w 8) = ((w + w / 256 : Nat) : Int) := by
  have a : jush w 8 = ((w / 256 : Nat) : Int) := jush_nat (x := w) (s := 8) (by decide) (by omega)
  rw [a, wr_id (by omega) (by omega)]
  omega
theorem bce5 {w : Nat} (h : w < 134217728) : wr ((w : Int) + jush w 16) = ((w + w / 65536 : Nat) : Int) := by
  have a : jush w 16 = ((w / 65536 : Nat) : Int) := jush_nat (x := w) (s := 16) (by decide) (by omega)
  rw [a, wr_id (by omega) (by omega)]
  omega
theorem bce6 {w : Nat} (h : w < 268435456) : jand (w : Int) 63 = ((w &&& 63 : Nat) : Int) := jand_nat (by omega)
theorem bc2_le (y : Nat) : bc2 y ≤ y + y / 4 := by
  have l2 : y &&& 858993459 ≤ y := Nat.and_le_left
  have l3 : y / 4 &&& 858993459 ≤ y / 4 := Nat.and_le_left
  unfold bc2
  omega
theorem bc3_le (y : Nat) : bc3 y ≤ y + y / 16 := by
  unfold bc3
  exact Nat.and_le_left
section ST6
variable {σ : jM} {Φ : jPh} {K : jWp} {x y : Int}
theorem bs1 (e : wr (x - jand (jush x 1) 1431655765) = y) (h : K [some (.inl y)] [] σ) : (c_il 0 (c_il 0 (c_ic 1 (c_b2 jush (c_ic 1431655765 (c_b2 jand (c_b2 (fun x y => wr (x - y)) (c_is 0 K)))))))) [some (.inl x)] [] σ := by
  subst e; exact h
theorem bs2 (e : wr (jand x 858993459 + jand (jush x 2) 858993459) = y) (h : K [some (.inl y)] [] σ) : (c_il 0 (c_ic 858993459 (c_b2 jand (c_il 0 (c_ic 2 (c_b2 jush (c_ic 858993459 (c_b2 jand (c_b2 (fun x y => wr (x + y)) (c_is 0 K)))))))))) [some (.inl x)] [] σ := by
  subst e; exact h
theorem bs3 (e : jand (wr (x + jush x 4)) 252645135 = y) (h : K [some (.inl y)] [] σ) : (c_il 0 (c_il 0 (c_ic 4 (c_b2 jush (c_b2 (fun x y => wr (x + y)) (c_ic 252645135 (c_b2 jand (c_is 0 K)))))))) [some (.inl x)] [] σ := by
  subst e; exact h
theorem bs4 {s : Int} (e : wr (x + jush x s) = y) (h : K [some (.inl y)] [] σ) : (c_il 0 (c_il 0 (c_ic s (c_b2 jush (c_b2 (fun x y => wr (x + y)) (c_is 0 K)))))) [some (.inl x)] [] σ := by
  subst e; exact h
theorem bs6 (e : jand x 63 = y) (h : Φ (some (.inl y)) σ) : (c_il 0 (c_ic 63 (c_b2 jand (c_iret Φ)))) [some (.inl x)] [] σ := by
  subst e; exact h
end ST6
theorem ok_IN_bitCount {σ : jM} {Φ : jPh} {d x : Nat} (hx : x < 16777216) (h : Φ (some (.inl (sumF (bt x) 24))) σ) : Ct (d + 1) M_IN_bitCount [.inl x] σ Φ := by
  refine i_IN_bitCount (Nat.le_refl 1) ?_
  rw [← bcT_s hx] at h
  unfold bcT at h
  have l1 := bc1_le x
  have l2 := bc2_le (bc1 x)
  have l3 := bc3_le (bc2 (bc1 x))
  unfold w_IN_bitCount_0
  refine bs1 (bce1 hx) ?_
  refine bs2 (bce2 (by omega)) ?_
  refine bs3 (bce3 (by omega)) ?_
  refine bs4 (bce4 (by omega)) ?_
  refine bs4 (bce5 (by omega)) ?_
  exact bs6 (bce6 (by omega)) h
