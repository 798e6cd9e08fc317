/-! Numbers read: the reference. -/
section PY
theorem sbZ_dig {c : Nat} (hc : c < 256) : (48 ≤ sbZ c ∧ sbZ c ≤ 57) ↔ (48 ≤ (c : Int) ∧ (c : Int) ≤ 57) := by
  unfold sbZ
  by_cases z : c < 128
  · rw [if_pos z]
  · rw [if_neg z]; omega
theorem sbZ_let {c : Nat} (hc : c < 256) : (97 ≤ sbZ c ∧ sbZ c ≤ 122) ↔ (97 ≤ (c : Int) ∧ (c : Int) ≤ 122) := by
  unfold sbZ
  by_cases z : c < 128
  · rw [if_pos z]
  · rw [if_neg z]; omega
theorem sbZ_b {c : Nat} (hc : c < 256) : -128 ≤ sbZ c ∧ sbZ c ≤ 127 := by
  unfold sbZ
  by_cases z : c < 128
  · rw [if_pos z]; omega
  · rw [if_neg z]; omega
theorem sbZ_lo {c : Nat} (hc : c < 128) : sbZ c = (c : Int) := if_pos hc
theorem isDigit_ok {N : Nat} {x : Int} (hx : -2147483648 ≤ x ∧ x < 2147483648) : Ok (fX12_isDigit N x) (fun r => (r = 1 ∧ 48 ≤ x ∧ x ≤ 57) ∨ (r = 0 ∧ ¬ (48 ≤ x ∧ x ≤ 57))) := by
  unfold fX12_isDigit
  exact isIn_r (by omega)
theorem isLetter_ok {N : Nat} {x : Int} (hx : -2147483648 ≤ x ∧ x < 2147483648) : Ok (fX12_isLetter N x) (fun r => (r = 1 ∧ 97 ≤ x ∧ x ≤ 122) ∨ (r = 0 ∧ ¬ (97 ≤ x ∧ x ≤ 122))) := by
  unfold fX12_isLetter
  exact isIn_r (by omega)
theorem fails_0 {N : Nat} {wa x1 x2 : Int} : Ok (fX12_fails N 0 wa x1 x2) (fun r => r = (x1, x2)) := by
  unfold fX12_fails
  exact Ok.eqp rfl (Ok.ret rfl)
theorem numeral_ok {N e a : Nat} {tx ty : Nat → Int} {lo hi wa ra : Int} (hT : TpR e tx ty) (he : e ≤ 900) (ha : a ≤ e) (hN : 1000 < N) (hl : 0 ≤ lo ∧ lo ≤ 1000) (hh : -1 ≤ hi ∧ hi ≤ 1000) : Ok (fX12_numeral N e ty a 0 wa ra lo hi) (fun r => (nuC tx e a lo hi = 0 ∧ r = (nuV tx e a, (nuE tx e a : Int), 0, wa, (bkS tx e a : Int))) ∨ (nuC tx e a lo hi ≠ 0 ∧ r.1 = lo ∧ r.2.1 = (nuE tx e a : Int) ∧ r.2.2.1 = nuC tx e a lo hi ∧ r.2.2.2.1 = (bkS tx e a : Int))) := by
  unfold fX12_numeral
  refine Ok.eqp rfl (Ok.bind (peek_ok hT he hN (by omega)) (fun r2 h2 => ?_))
  obtain ⟨h2a, h2b⟩ := h2
  have hbe := bkS_le (tx := tx) ha
  obtain ⟨b, hb⟩ : ∃ b, b = bkS tx e a := ⟨_, rfl⟩
  rw [← hb] at hbe h2a h2b ⊢
  have hds := dl_spec tx e b
  obtain ⟨D, hD⟩ : ∃ D, D = dlS tx e b := ⟨_, rfl⟩
  rw [← hD] at hds
  have eE : nuE tx e a = b + D := by unfold nuE; rw [← hb, ← hD]
  have eV : nuV tx e a = nvS tx b (mi3 D) := by unfold nuV; rw [← hb, ← hD]
  have eC : nuC tx e a lo hi = if D = 0 then 1 else if 3 < D ∨ nvS tx b (mi3 D) < lo ∨ hi < nvS tx b (mi3 D) then 2 else 0 := by unfold nuC; rw [← hb, ← hD, eV]
  have hvb := nuV_b tx e a
  rw [eV] at hvb
  have hm := mi3_b D
  rw [eE, eV]
  have hrb : -2147483648 ≤ r2.1 ∧ r2.1 < 2147483648 := by
    rcases h2b with z | z
    · omega
    · omega
  refine Ok.bind (isDigit_ok hrb) (fun r3 h3 => ?_)
  rw [h2a]
  have hiff : D = 0 ↔ ¬ (48 ≤ r2.1 ∧ r2.1 ≤ 57) := by
    rcases h2b with ⟨z1, z2, z3⟩ | ⟨z1, z2⟩
    · rw [z2]
      constructor
      · intro hz
        have := hds.2.2 (by omega)
        rw [hz, Nat.add_zero] at this; exact this
      · intro hz
        rcases Nat.eq_zero_or_pos D with w | w
        · exact w
        · have := hds.2.1 0 w
          rw [Nat.add_zero] at this; exact absurd this hz
    · constructor
      · intro _; omega
      · intro _; omega
  rcases h3 with ⟨y1, y2⟩ | ⟨y1, y2⟩
  · have hD0 : D ≠ 0 := fun z => hiff.mp z y2
    have fin : Ok (fX12_numeral_j110 N e ty lo hi (nvS tx b (mi3 D)) ((b + D : Nat) : Int) 0 wa (b : Int)) (fun r => (nuC tx e a lo hi = 0 ∧ r = (nvS tx b (mi3 D), ((b + D : Nat) : Int), 0, wa, (b : Int))) ∨ (nuC tx e a lo hi ≠ 0 ∧ r.1 = lo ∧ r.2.1 = ((b + D : Nat) : Int) ∧ r.2.2.1 = nuC tx e a lo hi ∧ r.2.2.2.1 = (b : Int))) := by
      unfold fX12_numeral_j110
      refine Ok.lt (by omega) (fun q => Ok.bind fails_0 (fun r12 h12 => ?_)) (fun q => ?_)
      · subst h12
        have e1 : nuC tx e a lo hi = 2 := by rw [eC, if_neg hD0, if_pos (by omega)]
        refine Ok.eqn (by show (2 : Int) ≠ 0 ∧ (-2147483648 ≤ (2 : Int) ∧ (2 : Int) < 2147483648) ∧ -2147483648 ≤ (0 : Int) ∧ (0 : Int) < 2147483648; omega) (Ok.ret (Or.inr ⟨by omega, rfl, rfl, e1.symm, rfl⟩))
      · by_cases f : lo ≤ nvS tx b (mi3 D) ∧ nvS tx b (mi3 D) ≤ hi
        · have e1 : nuC tx e a lo hi = 0 := by rw [eC, if_neg hD0, if_neg (by omega)]
          exact Ok.bind (isIn_t (by omega) f) (fun r14 h14 => Ok.eqn (by omega) (Ok.eqp rfl (Ok.ret (Or.inl ⟨e1, rfl⟩))))
        · have e1 : nuC tx e a lo hi = 2 := by rw [eC, if_neg hD0, if_pos (by omega)]
          refine Ok.bind (isIn_f (by omega) f) (fun r14 h14 => Ok.eqp h14 (Ok.bind fails_0 (fun r17 h17 => ?_)))
          subst h17
          exact Ok.eqn (by show (2 : Int) ≠ 0 ∧ (-2147483648 ≤ (2 : Int) ∧ (2 : Int) < 2147483648) ∧ -2147483648 ≤ (0 : Int) ∧ (0 : Int) < 2147483648; omega) (Ok.ret (Or.inr ⟨by omega, rfl, rfl, e1.symm, rfl⟩))
    refine Ok.eqn (by omega) ?_
    refine Ok.loop (fun m i (_ : Unit) => fX12_numeral_L40 N e ty lo hi (fX12_numeral_j110 N e ty lo hi) m (nvS tx b (mi3 i)) ((b + i : Nat) : Int) 0 wa (b : Int)) D (fun _ _ => True) _ ?_ ?_ N 0 () (by omega) (by omega) trivial
    · intro m i _ hli _ ih
      show Ok (fX12_numeral_b40 N e ty lo hi _ _ (nvS tx b (mi3 i)) ((b + i : Nat) : Int) 0 wa (b : Int)) _
      unfold fX12_numeral_b40
      have hdi := hds.2.1 i hli
      obtain ⟨c, c1, c2, c3⟩ := hT (b + i) (by omega)
      have hty : ty (b + i) = tx (b + i) := by rw [c3, c2, sbZ_lo (by omega)]
      rw [Int.toNat_natCast, hty]
      refine Ok.ltp (by omega) (Ok.gd (by omega) (Ok.bind (isDigit_ok (by omega)) (fun r7 h7 => ?_)))
      have h7' : r7 = 1 := by
        rcases h7 with z | z
        · exact z.1
        · exact absurd hdi z.2
      rw [show ((b + i : Nat) : Int) + 1 = ((b + (i + 1) : Nat) : Int) by omega]
      have g1 := mi3_b i
      have g2 := mi3_b (i + 1)
      refine Ok.eqn (by omega) (Ok.lt (by omega) (fun q => Ok.gd (by omega) ?_) (fun q => ?_))
      · have hn := ih () trivial
        have e3 : mi3 (i + 1) = i + 1 := by
          rcases Nat.lt_or_ge (i + 1) 3 with z | z
          · exact g2.2.2.1 z
          · rw [g2.2.2.2 z]; omega
        rw [e3, nvS_succ] at hn
        rw [g1.2.2.1 (by omega), Int.mul_comm 10]
        exact hn
      · have hn := ih () trivial
        rw [g2.2.2.2 (by omega)] at hn
        rw [g1.2.2.2 (by omega)]
        exact hn
    · intro m _ _
      show Ok (fX12_numeral_b40 N e ty lo hi _ _ (nvS tx b (mi3 D)) ((b + D : Nat) : Int) 0 wa (b : Int)) _
      unfold fX12_numeral_b40
      refine Ok.lt (by omega) (fun q => ?_) (fun q => fin)
      obtain ⟨c, c1, c2, c3⟩ := hT (b + D) (by omega)
      have hsb := sbZ_b c1
      rw [Int.toNat_natCast, c3]
      refine Ok.gd (by omega) (Ok.bind (isDigit_ok (by omega)) (fun r7 h7 => ?_))
      have h7' : r7 = 0 := by
        rcases h7 with z | z
        · have h1 := (sbZ_dig c1).mp z.2
          have h2 := hds.2.2 (by omega)
          rw [c2] at h2
          exact absurd h1 h2
        · exact z.1
      exact Ok.eqp h7' fin
  · have hD0 : D = 0 := hiff.mpr y2
    have e1 : nuC tx e a lo hi = 1 := by rw [eC, if_pos hD0]
    refine Ok.eqp y1 (Ok.bind fails_0 (fun r19 h19 => ?_))
    subst h19
    refine Ok.ret (Or.inr ⟨by omega, rfl, ?_, e1.symm, rfl⟩)
    show (b : Int) = ((b + D : Nat) : Int)
    rw [hD0, Nat.add_zero]
/-- a number that goes wrong before: nothing is read -/
theorem numeral_w {N e : Nat} {ty : Nat → Int} {lo hi w wa ra a : Int} (hw : w ≠ 0 ∧ -100 ≤ w ∧ w ≤ 100) : Ok (fX12_numeral N e ty a w wa ra lo hi) (fun r => r = (lo, a, w, wa, ra)) := by
  unfold fX12_numeral
  exact Ok.eqn (by omega) (Ok.ret rfl)
theorem fails_w {N : Nat} {w wa x1 x2 : Int} (hw : w ≠ 0 ∧ -100 ≤ w ∧ w ≤ 100) : Ok (fX12_fails N w wa x1 x2) (fun r => r = (w, wa)) := by
  unfold fX12_fails
  exact Ok.eqn (by omega) (Ok.ret rfl)
end PY
