/-! The reference's row of all that is told, held against a film; its lays(): means, counts, beginnings. -/
section P4
def BitsR (m : Int) (c : Nat → Int) : Prop := ∃ M : Nat, m = (M : Int) ∧ M < 16777216 ∧ ∀ t, t < 24 → c t = ((M / 2 ^ t % 2 : Nat) : Int)
/-- a film as it can be -/
def FV (d cu sk se we : Nat → Int) (W H F : Nat) : Prop := (1 ≤ W ∧ W ≤ 8) ∧ (1 ≤ H ∧ H ≤ 8) ∧ F ≤ 24 ∧ (∀ t p, t < F → p < W * H → 0 ≤ d (64 * t + p) ∧ d (64 * t + p) ≤ 15) ∧ (∀ t, t < 24 → cu t = 0 ∨ cu t = 1) ∧ (∀ t, t < 24 → sk t = 0 ∨ sk t = 1) ∧ (∀ t, F ≤ t → t < 24 → cu t = 0 ∧ sk t = 0) ∧ (∀ k, k < 6 → 0 ≤ se k ∧ se k ≤ hsZ k) ∧ se 1 ≤ se 2 ∧ (∀ k, k < 4 → 1 ≤ we k ∧ we k ≤ 9)
/-- .. and the reference's row for it -/
def SR (s d cu sk se we : Nat → Int) (W H F : Nat) : Prop := s 0 = (W : Int) ∧ s 1 = (H : Int) ∧ s 2 = (F : Int) ∧ (∀ k, k < 6 → s (3 + k) = se k) ∧ (∀ k, k < 4 → s (9 + k) = we k) ∧ BitsR (s 13) cu ∧ BitsR (s 14) sk ∧ (∀ t p, t < F → p < W * H → s (15 + 64 * t + p) = d (64 * t + p))
/-- counts put together, as one row -/
def CU (d : Nat → Int) (S : Nat) : Nat → Int := fun j => cumS d S (j / 16) (j % 16)
theorem CU_at (d : Nat → Int) (S t v : Nat) (hv : v < 16) : CU d S (16 * t + v) = cumS d S t v := by
  unfold CU
  rw [show (16 * t + v) / 16 = t by omega, show (16 * t + v) % 16 = v by omega]
theorem CU_b {d : Nat → Int} {S : Nat} (hS : S ≤ 64) : RowB (CU d S) := fun j _ => by
  have h := cumS_b d S (j / 16) (j % 16)
  unfold CU; omega
theorem gapS_cong {c c' : Nat → Int} {t u : Nat} (h1 : ∀ v, v < 16 → c (16 * t + v) = c' (16 * t + v)) (h2 : ∀ v, v < 16 → c (16 * u + v) = c' (16 * u + v)) : gapS c t u = gapS c' t u := sI_cong (fun k hk => by rw [h1 k hk, h2 k hk])
theorem begP_cong {cu : Nat → Int} {bo : Int} {c c' : Nat → Int} {t : Nat} (h : ∀ u v, u ≤ t → v < 16 → c (16 * u + v) = c' (16 * u + v)) : begP cu bo c t ↔ begP cu bo c' t := by
  unfold begP
  rw [gapS_cong (c := c) (c' := c') (t := t - 1) (u := t) (fun v hv => h (t - 1) v (by omega) hv) (fun v hv => h t v (Nat.le_refl t) hv)]
theorem size_b {W H : Nat} (hW : 1 ≤ W ∧ W ≤ 8) (hH : 1 ≤ H ∧ H ≤ 8) : 1 ≤ W * H ∧ W * H ≤ 64 := by
  have h1 : W * H ≤ 8 * 8 := Nat.mul_le_mul hW.2 hH.2
  have h2 : 1 * 1 ≤ W * H := Nat.mul_le_mul hW.1 hH.1
  omega
theorem iZ_nat (n : Nat) : iZ (n : Int) = nI n := rfl
theorem iZ_natI {n : Nat} (h : n < 2147483648) : (iZ (n : Int)).toInt = (n : Int) := iZ_toInt (by omega) (by omega)
theorem sh31 : ∀ n : Fin 32, ((nI n.val &&& 31).toBitVec.smod 32).toNat = n.val := by decide
theorem bit_ok {M t : Nat} (hM : M < 16777216) (ht : t < 24) : aZ (rZ (M : Int) (t : Int)) 1 = ((M / 2 ^ t % 2 : Nat) : Int) := by
  have hq : M / 2 ^ t ≤ M := Nat.div_le_self _ _
  have e1 : rZ (M : Int) (t : Int) = ((M / 2 ^ t : Nat) : Int) := by
    unfold rZ
    rw [iZ_nat, iZ_nat, pk_shrN (by omega) _ t (sh31 ⟨t, by omega⟩)]
    rw [← iZ_nat]
    exact iZ_natI (Nat.lt_of_le_of_lt hq (by omega))
  rw [e1]
  unfold aZ
  have e2 : iZ 1 = (1 : Int32) := by decide
  rw [iZ_nat, e2, pk_andN (Nat.lt_of_le_of_lt hq (by omega)) 1 (by decide)]
  rw [← iZ_nat]
  have h2 : M / 2 ^ t % 2 ^ 1 < 2 ^ 1 := Nat.mod_lt _ (by decide)
  exact iZ_natI (Nat.lt_trans h2 (by decide))
theorem bits_ok {m : Int} {c : Nat → Int} (h : BitsR m c) {t : Nat} (ht : t < 24) : aZ (rZ m (t : Int)) 1 = c t := by
  obtain ⟨M, e1, hM, hc⟩ := h
  rw [e1, bit_ok hM ht, hc t ht]
theorem mdots_ok {N : Nat} {s d cu sk se we : Nat → Int} {W H F : Nat} (hs : SR s d cu sk se we W H F) : Ok (fX12_dots N s) (fun r => r = ((W * H : Nat) : Int)) := by
  unfold fX12_dots
  refine Ok.gd (by omega) (Ok.gd (by omega) (Ok.ret ?_))
  show s 0 * s 1 = _
  rw [hs.1, hs.2.1]; exact (Int.natCast_mul W H).symm
theorem mdotAt_ok {N : Nat} {s d cu sk se we : Nat → Int} {W H F t p : Nat} (hs : SR s d cu sk se we W H F) (hv : FV d cu sk se we W H F) (ht : t < F) (hp : p < W * H) : Ok (fX12_dotAt N s t p) (fun r => r = d (64 * t + p)) := by
  unfold fX12_dotAt
  have hS := size_b hv.1 hv.2.1
  have hF := hv.2.2.1
  have e1 : (15 + 64 * (t : Int) + (p : Int)).toNat = 15 + 64 * t + p := by omega
  rw [e1]
  exact Ok.gd (by omega) (Ok.ret (hs.2.2.2.2.2.2.2 t p ht hp))
/-- one dot more: its shade and all above -/
theorem lays_up {N : Nat} {s : Nat → Int} {f : Nat} {i2 : Int} {w : Nat} {me be : Nat → Int} {kk : Int → Int → (Nat → Int) → (Nat → Int) → (Nat → Int) → Option ((Nat → Int) × (Nat → Int) × (Nat → Int))} {P : (Nat → Int) × (Nat → Int) × (Nat → Int) → Prop} (hf : f < 24) (hw : w < 16) (hN : 20 < N) (g0 : Nat → Int)
    (hk : ∀ g : Nat → Int, (∀ v, v < 16 → g (16 * f + v) = g0 (16 * f + v) + if w ≤ v then 1 else 0) → (∀ j, (j < 16 * f ∨ 16 * f + 16 ≤ j) → g j = g0 j) → Ok (kk f i2 me g be) P) : Ok (fX12_lays_L77 N s kk N f i2 (w : Int) me g0 be) P := by
  refine Ok.loop (fun m i g => fX12_lays_L77 N s kk m f i2 (i : Int) me g be) 16 (fun i g => w ≤ i ∧ (∀ v, v < 16 → g (16 * f + v) = g0 (16 * f + v) + if w ≤ v ∧ v < i then 1 else 0) ∧ ∀ j, (j < 16 * f ∨ 16 * f + 16 ≤ j) → g j = g0 j) _ ?_ ?_ N w g0 (by omega) (by omega) ⟨Nat.le_refl w, fun v hv => by rw [if_neg (by omega), Int.add_zero], fun j _ => rfl⟩
  · intro m i g hi hI ih
    show Ok (fX12_lays_b77 N s _ _ (f : Int) i2 (i : Int) me g be) _
    unfold fX12_lays_b77
    have e1 : (16 * (f : Int) + (i : Int)).toNat = 16 * f + i := by omega
    rw [e1]
    refine Ok.ltp (by omega) (Ok.gd (by omega) (Ok.gd (by omega) ?_))
    obtain ⟨hwi, hI⟩ := hI
    refine ih _ ⟨by omega, fun v hv => ?_, fun j hj => ?_⟩
    · by_cases q : v = i
      · rw [q, uZ_at, hI.1 i hi, if_neg (by omega), if_pos (by omega)]; omega
      · rw [uZ_ne (by omega), hI.1 v hv]
        by_cases q2 : w ≤ v ∧ v < i
        · rw [if_pos q2, if_pos (by omega)]
        · rw [if_neg q2, if_neg (by omega)]
    · rw [uZ_ne (by omega)]; exact hI.2 j hj
  · intro m g hI
    show Ok (fX12_lays_b77 N s _ _ (f : Int) i2 ((16 : Nat) : Int) me g be) _
    unfold fX12_lays_b77
    obtain ⟨-, hI⟩ := hI
    refine Ok.ltn (by omega) (hk g (fun v hv => ?_) hI.2)
    rw [hI.1 v hv]
    by_cases q : w ≤ v
    · rw [if_pos ⟨q, hv⟩, if_pos q]
    · rw [if_neg (by omega), if_neg q]
end P4
