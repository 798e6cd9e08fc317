/-! Bits: counted in the reference, added up in the class. -/
section PI
theorem pmk8 (n m c : Nat) (hc : c < 256) : n &&& (256*m+c) = 256*((n/256) &&& m) + (n%256 &&& c) := by
  apply Nat.eq_of_testBit_eq
  intro i
  have h1 : n % 256 &&& c < 2^8 := Nat.lt_of_le_of_lt Nat.and_le_right hc
  have hc2 : c < 2^8 := hc
  rw [Nat.testBit_and, show 256 = 2^8 from rfl, Nat.testBit_two_pow_mul_add _ hc2, Nat.testBit_two_pow_mul_add _ h1]
  by_cases q : i < 8
  · rw [if_pos q, if_pos q, Nat.testBit_and]
    have hm : (n % 256).testBit i = n.testBit i := by
      rw [show 256 = 2 ^ 8 from rfl, Nat.testBit_mod_two_pow, decide_eq_true q, Bool.true_and]
    rw [hm]
  · rw [if_neg q, if_neg q, Nat.testBit_and, Nat.testBit_div_two_pow]
    rw [show i - 8 + 8 = i by omega]
theorem pand3 (n c : Nat) (hc : c < 256) : n &&& (256*(256*(256*c+c)+c)+c) = (n % 256 &&& c) + 256 * (n / 256 % 256 &&& c) + 65536 * (n / 65536 % 256 &&& c) + 16777216 * (n / 16777216 &&& c) := by
  rw [pmk8 _ _ _ hc, pmk8 _ _ _ hc, pmk8 _ _ _ hc, show n / 256 / 256 / 256 = n / 16777216 by omega, show n / 256 / 256 % 256 = n / 65536 % 256 by omega]
  omega
def pw1 (b : Nat) : Nat := b - ((b / 2) &&& 85)
def pw2 (b : Nat) : Nat := (pw1 b &&& 51) + ((pw1 b / 4) &&& 51)
def pw3 (b : Nat) : Nat := (pw2 b + pw2 b / 16) % 16
def pcN (b : Nat) : Nat := b % 2 + b / 2 % 2 + b / 4 % 2 + b / 8 % 2 + b / 16 % 2 + b / 32 % 2 + b / 64 % 2 + b / 128 % 2
theorem pw_all : ∀ b : Fin 256, ((b.val / 2) &&& 85) ≤ b.val ∧ pw1 b.val < 256 ∧ pw2 b.val ≤ 68 ∧ pw2 b.val % 16 ≤ 4 ∧ pw3 b.val = pcN b.val ∧ pw3 b.val ≤ 8 ∧ (pw1 b.val &&& 51) ≤ 51 ∧ ((pw1 b.val / 4) &&& 51) ≤ 51 := by decide +kernel
theorem pm55 : ∀ b : Fin 256, (b.val &&& 85) = (b.val % 128 &&& 85) := by decide +kernel
theorem pm33 : ∀ b : Fin 256, (b.val &&& 51) = (b.val % 64 &&& 51) := by decide +kernel
theorem pm0f : ∀ b : Fin 256, (b.val &&& 15) = b.val % 16 := by decide +kernel
theorem pnib (A B C : Nat) (hA : A ≤ 68) (hB : B ≤ 68) (hC : C ≤ 68) (a4 : A % 16 ≤ 4) (b4 : B % 16 ≤ 4) (c4 : C % 16 ≤ 4) (y : Nat) (hy : y = (A + 256 * B + 65536 * C) + (A + 256 * B + 65536 * C) / 16) : y % 256 % 16 = (A + A / 16) % 16 ∧ y / 256 % 256 % 16 = (B + B / 16) % 16 ∧ y / 65536 % 256 % 16 = (C + C / 16) % 16 ∧ y < 16777216 := by
  have e1 : (A + 256 * B + 65536 * C) / 16 = A / 16 + 16 * B + 4096 * C := by omega
  rw [e1] at hy
  obtain ⟨p, hp⟩ : ∃ p, p = A + A / 16 + 16 * (B % 16) := ⟨_, rfl⟩
  obtain ⟨q, hq⟩ : ∃ q, q = B + B / 16 + 16 * (C % 16) := ⟨_, rfl⟩
  obtain ⟨r, hr⟩ : ∃ r, r = C + C / 16 := ⟨_, rfl⟩
  have lp : p < 256 := by omega
  have lq : q < 256 := by omega
  have lr : r < 256 := by omega
  have e2 : y = p + 256 * q + 65536 * r := by omega
  have s1 : y % 256 = p := by clear hp hq hr hy e1; omega
  have s2 : y / 256 % 256 = q := by clear hp hq hr hy e1; omega
  have s3 : y / 65536 % 256 = r := by clear hp hq hr hy e1; omega
  rw [s1, s2, s3]
  refine ⟨by omega, by omega, by omega, by clear hp hq hr hy e1; omega⟩
theorem pfin8 (X Y Z v : Nat) (hX : X ≤ 8) (hY : Y ≤ 8) (hZ : Z ≤ 8) (hv : v = X + 256 * Y + 65536 * Z) : (v + v / 256 + (v + v / 256) / 65536) % 64 = X + Y + Z := by
  have e1 : v / 256 = Y + 256 * Z := by omega
  have e2 : v + v / 256 = (X + Y) + 256 * (Y + Z) + 65536 * Z := by omega
  have e3 : (v + v / 256) / 65536 = Z := by rw [e2]; omega
  rw [e3, e2]; omega
theorem pop_ok (M : Nat) (hM : M < 16777216) : ∃ v1 v2 v3 v4 v5 : Nat, v1 = M - ((M / 2) &&& 1431655765) ∧ ((M / 2) &&& 1431655765) ≤ M ∧ v2 = (v1 &&& 858993459) + ((v1 / 4) &&& 858993459) ∧ v3 = (v2 + v2 / 16) &&& 252645135 ∧ v4 = v3 + v3 / 256 ∧ v5 = v4 + v4 / 65536 ∧ (v5 &&& 63) = pcN (M % 256) + pcN (M / 256 % 256) + pcN (M / 65536) ∧ v1 < 16777216 ∧ v2 < 16777216 ∧ v3 < 16777216 ∧ v4 < 16777216 ∧ v5 < 16777216 := by
  obtain ⟨a, ha⟩ : ∃ a, a = M % 256 := ⟨_, rfl⟩
  obtain ⟨b, hb⟩ : ∃ b, b = M / 256 % 256 := ⟨_, rfl⟩
  obtain ⟨c, hc⟩ : ∃ c, c = M / 65536 := ⟨_, rfl⟩
  have hMe : M = a + 256 * b + 65536 * c := by omega
  have la : a < 256 := by omega
  have lb : b < 256 := by omega
  have lc : c < 256 := by omega
  rw [← ha, ← hb, ← hc]
  have wa := pw_all ⟨a, la⟩
  have wb := pw_all ⟨b, lb⟩
  have wc := pw_all ⟨c, lc⟩
  have e1 : (M / 2) &&& 1431655765 = ((a / 2) &&& 85) + 256 * ((b / 2) &&& 85) + 65536 * ((c / 2) &&& 85) := by
    rw [show 1431655765 = 256*(256*(256*85+85)+85)+85 from rfl, pand3 _ _ (by decide)]
    have z1 := pm55 ⟨M / 2 % 256, by omega⟩
    have z2 := pm55 ⟨M / 2 / 256 % 256, by omega⟩
    have z3 := pm55 ⟨M / 2 / 65536 % 256, by omega⟩
    simp only at z1 z2 z3
    rw [z1, z2, z3, show M / 2 % 256 % 128 = a / 2 by omega, show M / 2 / 256 % 256 % 128 = b / 2 by omega, show M / 2 / 65536 % 256 % 128 = c / 2 by omega, show M / 2 / 16777216 = 0 by omega, Nat.zero_and]
    omega
  simp only at wa wb wc
  obtain ⟨v1, hv1⟩ : ∃ v1, v1 = pw1 a + 256 * pw1 b + 65536 * pw1 c := ⟨_, rfl⟩
  obtain ⟨v2, hv2⟩ : ∃ v2, v2 = pw2 a + 256 * pw2 b + 65536 * pw2 c := ⟨_, rfl⟩
  obtain ⟨v3, hv3⟩ : ∃ v3, v3 = pw3 a + 256 * pw3 b + 65536 * pw3 c := ⟨_, rfl⟩
  have d1 : pw1 a = a - ((a / 2) &&& 85) := rfl
  have d2 : pw1 b = b - ((b / 2) &&& 85) := rfl
  have d3 : pw1 c = c - ((c / 2) &&& 85) := rfl
  have f1 : v1 &&& 858993459 = (pw1 a &&& 51) + 256 * (pw1 b &&& 51) + 65536 * (pw1 c &&& 51) := by
    rw [show 858993459 = 256*(256*(256*51+51)+51)+51 from rfl, pand3 _ _ (by decide), show v1 % 256 = pw1 a by omega, show v1 / 256 % 256 = pw1 b by omega, show v1 / 65536 % 256 = pw1 c by omega, show v1 / 16777216 = 0 by omega, Nat.zero_and]
    omega
  have f2 : (v1 / 4) &&& 858993459 = ((pw1 a / 4) &&& 51) + 256 * ((pw1 b / 4) &&& 51) + 65536 * ((pw1 c / 4) &&& 51) := by
    rw [show 858993459 = 256*(256*(256*51+51)+51)+51 from rfl, pand3 _ _ (by decide)]
    have z1 := pm33 ⟨v1 / 4 % 256, by omega⟩
    have z2 := pm33 ⟨v1 / 4 / 256 % 256, by omega⟩
    have z3 := pm33 ⟨v1 / 4 / 65536 % 256, by omega⟩
    simp only at z1 z2 z3
    rw [z1, z2, z3, show v1 / 4 % 256 % 64 = pw1 a / 4 by omega, show v1 / 4 / 256 % 256 % 64 = pw1 b / 4 by omega, show v1 / 4 / 65536 % 256 % 64 = pw1 c / 4 by omega, show v1 / 4 / 16777216 = 0 by omega, Nat.zero_and]
    omega
  have g1 : pw2 a = (pw1 a &&& 51) + ((pw1 a / 4) &&& 51) := rfl
  have g2 : pw2 b = (pw1 b &&& 51) + ((pw1 b / 4) &&& 51) := rfl
  have g3 : pw2 c = (pw1 c &&& 51) + ((pw1 c / 4) &&& 51) := rfl
  have k1 : pw3 a = (pw2 a + pw2 a / 16) % 16 := rfl
  have k2 : pw3 b = (pw2 b + pw2 b / 16) % 16 := rfl
  have k3 : pw3 c = (pw2 c + pw2 c / 16) % 16 := rfl
  have f3 : (v2 + v2 / 16) &&& 252645135 = v3 := by
    obtain ⟨y, hy⟩ : ∃ y, y = v2 + v2 / 16 := ⟨_, rfl⟩
    rw [← hy, show 252645135 = 256*(256*(256*15+15)+15)+15 from rfl, pand3 _ _ (by decide)]
    have z1 := pm0f ⟨y % 256, by omega⟩
    have z2 := pm0f ⟨y / 256 % 256, by omega⟩
    have z3 := pm0f ⟨y / 65536 % 256, by omega⟩
    simp only at z1 z2 z3
    obtain ⟨y1, y2, y3, y4⟩ := pnib (pw2 a) (pw2 b) (pw2 c) (by omega) (by omega) (by omega) (by omega) (by omega) (by omega) y (by rw [hy, hv2])
    rw [← k1] at y1
    rw [← k2] at y2
    rw [← k3] at y3
    rw [z1, z2, z3, y1, y2, y3, show y / 16777216 = 0 by omega, Nat.zero_and]
    omega
  refine ⟨v1, v2, v3, v3 + v3 / 256, v3 + v3 / 256 + (v3 + v3 / 256) / 65536, by omega, by omega, by omega, f3.symm, rfl, rfl, ?_, by omega, by omega, by omega, by omega, by omega⟩
  rw [show 63 = 2 ^ 6 - 1 from rfl, Nat.and_two_pow_sub_one_eq_mod]
  rw [pfin8 (pw3 a) (pw3 b) (pw3 c) v3 (by omega) (by omega) (by omega) hv3]
  omega
theorem iZ_bv (n : Nat) : (iZ (n : Int)).toBitVec = BitVec.ofNat 32 n := rfl
theorem bv_int {n : Nat} (h : n < 2147483648) : (BitVec.ofNat 32 n).toInt = (n : Int) := by
  rw [BitVec.toInt_eq_toNat_of_lt (by rw [BitVec.toNat_ofNat]; omega), BitVec.toNat_ofNat]; omega
theorem aZ_nat {a b : Nat} (ha : a < 2147483648) (hb : b < 2147483648) : aZ (a : Int) (b : Int) = ((a &&& b : Nat) : Int) := by
  unfold aZ
  show (iZ (a : Int) &&& iZ (b : Int)).toBitVec.toInt = _
  rw [Int32.toBitVec_and, iZ_bv, iZ_bv, ← BitVec.ofNat_and]
  exact bv_int (Nat.lt_of_le_of_lt Nat.and_le_left ha)
theorem oZ_nat {a b : Nat} (ha : a < 2147483648) (hb : b < 2147483648) : oZ (a : Int) (b : Int) = ((a ||| b : Nat) : Int) := by
  unfold oZ
  show (iZ (a : Int) ||| iZ (b : Int)).toBitVec.toInt = _
  rw [Int32.toBitVec_or, iZ_bv, iZ_bv, ← BitVec.ofNat_or]
  exact bv_int (Nat.or_lt_two_pow (n := 31) ha hb)
theorem xZ_nat {a b : Nat} (ha : a < 2147483648) (hb : b < 2147483648) : xZ (a : Int) (b : Int) = ((a ^^^ b : Nat) : Int) := by
  unfold xZ
  show (iZ (a : Int) ^^^ iZ (b : Int)).toBitVec.toInt = _
  rw [Int32.toBitVec_xor, iZ_bv, iZ_bv, ← BitVec.ofNat_xor]
  exact bv_int (Nat.xor_lt_two_pow (n := 31) ha hb)
theorem tZ_nat {a t : Nat} (ha : a < 2147483648) (ht : t < 32) : tZ (a : Int) (t : Int) = ((a / 2 ^ t : Nat) : Int) := by
  have e1 : ((iZ (t : Int)).toUInt32 &&& Int32.toUInt32 31).toNat = t := by
    have : ∀ k : Fin 32, ((iZ (k.val : Int)).toUInt32 &&& Int32.toUInt32 31).toNat = k.val := by decide
    exact this ⟨t, ht⟩
  have e2 : ((iZ (a : Int)).toUInt32).toNat = a := by
    show ((iZ (a : Int)).toBitVec).toNat = a
    rw [iZ_bv, BitVec.toNat_ofNat]; omega
  unfold tZ
  show ((iZ (a : Int)).toUInt32 >>> ((iZ (t : Int)).toUInt32 &&& Int32.toUInt32 31)).toBitVec.toInt = _
  have e3 : ((iZ (a : Int)).toUInt32 >>> ((iZ (t : Int)).toUInt32 &&& Int32.toUInt32 31)).toNat = a / 2 ^ t := by
    rw [UInt32.toNat_shiftRight, e1, e2, Nat.mod_eq_of_lt ht, Nat.shiftRight_eq_div_pow]
  have e4 : a / 2 ^ t ≤ a := Nat.div_le_self _ _
  have e5 : ((iZ (a : Int)).toUInt32 >>> ((iZ (t : Int)).toUInt32 &&& Int32.toUInt32 31)).toBitVec.toNat = a / 2 ^ t := e3
  rw [BitVec.toInt_eq_toNat_of_lt (by rw [e5]; omega), e5]

theorem pcN_bits (M : Nat) : pcN (M % 256) = M % 2 + M / 2 % 2 + M / 4 % 2 + M / 8 % 2 + M / 16 % 2 + M / 32 % 2 + M / 64 % 2 + M / 128 % 2 := by
  unfold pcN
  rw [show M % 256 % 2 = M % 2 by omega, show M % 256 / 2 % 2 = M / 2 % 2 by omega, show M % 256 / 4 % 2 = M / 4 % 2 by omega, show M % 256 / 8 % 2 = M / 8 % 2 by omega, show M % 256 / 16 % 2 = M / 16 % 2 by omega, show M % 256 / 32 % 2 = M / 32 % 2 by omega, show M % 256 / 64 % 2 = M / 64 % 2 by omega, show M % 256 / 128 % 2 = M / 128 % 2 by omega]
theorem pop_sum (M : Nat) (hM : M < 16777216) (c : Nat → Int) (hc : ∀ t, t < 24 → c t = ((M / 2 ^ t % 2 : Nat) : Int)) : ((pcN (M % 256) + pcN (M / 256 % 256) + pcN (M / 65536) : Nat) : Int) = sI c 24 := by
  have e3 : pcN (M / 65536) = pcN (M / 65536 % 256) := by rw [Nat.mod_eq_of_lt (show M / 65536 < 256 by omega)]
  rw [e3, pcN_bits M, pcN_bits (M / 256), pcN_bits (M / 65536)]
  have eS : sI c 24 = 0 + c 0 + c 1 + c 2 + c 3 + c 4 + c 5 + c 6 + c 7 + c 8 + c 9 + c 10 + c 11 + c 12 + c 13 + c 14 + c 15 + c 16 + c 17 + c 18 + c 19 + c 20 + c 21 + c 22 + c 23 := rfl
  have k0 : c 0 = ((M % 2 : Nat) : Int) := by rw [hc 0 (by decide), show M / 2 ^ 0 = M by omega]
  have k1 : c 1 = ((M / 2 % 2 : Nat) : Int) := by rw [hc 1 (by decide), show M / 2 ^ 1 = M / 2 by omega]
  have k2 : c 2 = ((M / 4 % 2 : Nat) : Int) := by rw [hc 2 (by decide), show M / 2 ^ 2 = M / 4 by omega]
  have k3 : c 3 = ((M / 8 % 2 : Nat) : Int) := by rw [hc 3 (by decide), show M / 2 ^ 3 = M / 8 by omega]
  have k4 : c 4 = ((M / 16 % 2 : Nat) : Int) := by rw [hc 4 (by decide), show M / 2 ^ 4 = M / 16 by omega]
  have k5 : c 5 = ((M / 32 % 2 : Nat) : Int) := by rw [hc 5 (by decide), show M / 2 ^ 5 = M / 32 by omega]
  have k6 : c 6 = ((M / 64 % 2 : Nat) : Int) := by rw [hc 6 (by decide), show M / 2 ^ 6 = M / 64 by omega]
  have k7 : c 7 = ((M / 128 % 2 : Nat) : Int) := by rw [hc 7 (by decide), show M / 2 ^ 7 = M / 128 by omega]
  have k8 : c 8 = ((M / 256 % 2 : Nat) : Int) := by rw [hc 8 (by decide), show M / 2 ^ 8 = M / 256 by omega]
  have k9 : c 9 = ((M / 256 / 2 % 2 : Nat) : Int) := by rw [hc 9 (by decide), show M / 2 ^ 9 = M / 256 / 2 by omega]
  have k10 : c 10 = ((M / 256 / 4 % 2 : Nat) : Int) := by rw [hc 10 (by decide), show M / 2 ^ 10 = M / 256 / 4 by omega]
  have k11 : c 11 = ((M / 256 / 8 % 2 : Nat) : Int) := by rw [hc 11 (by decide), show M / 2 ^ 11 = M / 256 / 8 by omega]
  have k12 : c 12 = ((M / 256 / 16 % 2 : Nat) : Int) := by rw [hc 12 (by decide), show M / 2 ^ 12 = M / 256 / 16 by omega]
  have k13 : c 13 = ((M / 256 / 32 % 2 : Nat) : Int) := by rw [hc 13 (by decide), show M / 2 ^ 13 = M / 256 / 32 by omega]
  have k14 : c 14 = ((M / 256 / 64 % 2 : Nat) : Int) := by rw [hc 14 (by decide), show M / 2 ^ 14 = M / 256 / 64 by omega]
  have k15 : c 15 = ((M / 256 / 128 % 2 : Nat) : Int) := by rw [hc 15 (by decide), show M / 2 ^ 15 = M / 256 / 128 by omega]
  have k16 : c 16 = ((M / 65536 % 2 : Nat) : Int) := by rw [hc 16 (by decide), show M / 2 ^ 16 = M / 65536 by omega]
  have k17 : c 17 = ((M / 65536 / 2 % 2 : Nat) : Int) := by rw [hc 17 (by decide), show M / 2 ^ 17 = M / 65536 / 2 by omega]
  have k18 : c 18 = ((M / 65536 / 4 % 2 : Nat) : Int) := by rw [hc 18 (by decide), show M / 2 ^ 18 = M / 65536 / 4 by omega]
  have k19 : c 19 = ((M / 65536 / 8 % 2 : Nat) : Int) := by rw [hc 19 (by decide), show M / 2 ^ 19 = M / 65536 / 8 by omega]
  have k20 : c 20 = ((M / 65536 / 16 % 2 : Nat) : Int) := by rw [hc 20 (by decide), show M / 2 ^ 20 = M / 65536 / 16 by omega]
  have k21 : c 21 = ((M / 65536 / 32 % 2 : Nat) : Int) := by rw [hc 21 (by decide), show M / 2 ^ 21 = M / 65536 / 32 by omega]
  have k22 : c 22 = ((M / 65536 / 64 % 2 : Nat) : Int) := by rw [hc 22 (by decide), show M / 2 ^ 22 = M / 65536 / 64 by omega]
  have k23 : c 23 = ((M / 65536 / 128 % 2 : Nat) : Int) := by rw [hc 23 (by decide), show M / 2 ^ 23 = M / 65536 / 128 by omega]
  rw [eS, k0, k1, k2, k3, k4, k5, k6, k7, k8, k9, k10, k11, k12, k13, k14, k15, k16, k17, k18, k19, k20, k21, k22, k23]
  omega
theorem bitCount_ok {N : Nat} {m : Int} {c : Nat → Int} (h : BitsR m c) : Ok (fJ6_bitCount_0f7a4 N m) (fun r => r = sI c 24) := by
  obtain ⟨M, rfl, hM, hc⟩ := h
  obtain ⟨v1, v2, v3, v4, v5, e1, e1b, e2, e3, e4, e5, e6, l1, l2, l3, l4, l5⟩ := pop_ok M hM
  unfold fJ6_bitCount_0f7a4
  have t1 : tZ (M : Int) 1 = ((M / 2 : Nat) : Int) := tZ_nat (t := 1) (by omega) (by decide)
  have t2 : aZ ((M / 2 : Nat) : Int) 1431655765 = (((M / 2) &&& 1431655765 : Nat) : Int) := aZ_nat (b := 1431655765) (by omega) (by decide)
  have t3 : (M : Int) - (((M / 2) &&& 1431655765 : Nat) : Int) = (v1 : Int) := by omega
  have t4 : tZ (v1 : Int) 2 = ((v1 / 4 : Nat) : Int) := tZ_nat (t := 2) (by omega) (by decide)
  have t5 : aZ (v1 : Int) 858993459 = ((v1 &&& 858993459 : Nat) : Int) := aZ_nat (b := 858993459) (by omega) (by decide)
  have t6 : aZ ((v1 / 4 : Nat) : Int) 858993459 = (((v1 / 4) &&& 858993459 : Nat) : Int) := aZ_nat (b := 858993459) (by omega) (by decide)
  have t7 : ((v1 &&& 858993459 : Nat) : Int) + (((v1 / 4) &&& 858993459 : Nat) : Int) = (v2 : Int) := by omega
  have t8 : tZ (v2 : Int) 4 = ((v2 / 16 : Nat) : Int) := tZ_nat (t := 4) (by omega) (by decide)
  have t9 : (v2 : Int) + ((v2 / 16 : Nat) : Int) = ((v2 + v2 / 16 : Nat) : Int) := by omega
  have t10 : aZ ((v2 + v2 / 16 : Nat) : Int) 252645135 = (v3 : Int) := by rw [e3]; exact aZ_nat (b := 252645135) (by omega) (by decide)
  have t11 : tZ (v3 : Int) 8 = ((v3 / 256 : Nat) : Int) := tZ_nat (t := 8) (by omega) (by decide)
  have t12 : (v3 : Int) + ((v3 / 256 : Nat) : Int) = (v4 : Int) := by omega
  have t13 : tZ (v4 : Int) 16 = ((v4 / 65536 : Nat) : Int) := tZ_nat (t := 16) (by omega) (by decide)
  have t14 : (v4 : Int) + ((v4 / 65536 : Nat) : Int) = (v5 : Int) := by omega
  have t15 : aZ (v5 : Int) 63 = ((v5 &&& 63 : Nat) : Int) := aZ_nat (b := 63) (by omega) (by decide)
  rw [t1, t2, t3, t4, t5, t6, t7, t8, t9, t10, t11, t12, t13, t14, t15, e6]
  exact Ok.ret (pop_sum M hM c hc)
theorem marked_ok {N F : Nat} {c : Nat → Int} (hF : F ≤ 24) (hN : 40 < N) (h0 : ∀ t, F ≤ t → t < 24 → c t = 0) : Ok (fX2_marked N F c) (fun r => r = sI c 24) := by
  unfold fX2_marked
  refine Ok.loop (fun m i a => fX2_marked_L4 N F c (fX2_marked_j24 N F c) m a (i : Int)) F (fun i a => a = sI c i) _ ?_ ?_ N 0 0 (by omega) (by omega) rfl
  · intro m i a hi hI ih
    show Ok (fX2_marked_b4 N F c _ _ a (i : Int)) _
    unfold fX2_marked_b4
    rw [Int.toNat_natCast]
    refine Ok.ltp (by omega) (Ok.gd (by omega) (ih _ ?_))
    rw [sI_succ, hI]
  · intro m a hI
    show Ok (fX2_marked_b4 N F c _ _ a (F : Int)) _
    unfold fX2_marked_b4 fX2_marked_j24
    refine Ok.ltn (by omega) (Ok.ret ?_)
    rw [hI]; exact (sI_tail hF (fun k h1 h2 => h0 k h1 h2)).symm
end PI
