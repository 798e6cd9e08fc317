/-! How far a frame is moved against the next. -/
section PU
/-- is the dot at p like the one it would move to -/
noncomputable def ldB (d : Nat → Int) (W H t : Nat) (x y : Int) (p : Nat) : Bool := pB (0 ≤ ((p % W : Nat) : Int) + x ∧ ((p % W : Nat) : Int) + x < W ∧ 0 ≤ ((p / W : Nat) : Int) + y ∧ ((p / W : Nat) : Int) + y < H ∧ d (64 * (t + 1) + ((W : Int) * (((p / W : Nat) : Int) + y) + (((p % W : Nat) : Int) + x)).toNat) = d (64 * t + p))
noncomputable def ldS (d : Nat → Int) (W H t : Nat) (x y : Int) : Nat → Int := fun p => if ldB d W H t x y p then 1 else 0
theorem ldS_t {d : Nat → Int} {W H t p : Nat} {x y : Int} (h : 0 ≤ ((p % W : Nat) : Int) + x ∧ ((p % W : Nat) : Int) + x < W ∧ 0 ≤ ((p / W : Nat) : Int) + y ∧ ((p / W : Nat) : Int) + y < H ∧ d (64 * (t + 1) + ((W : Int) * (((p / W : Nat) : Int) + y) + (((p % W : Nat) : Int) + x)).toNat) = d (64 * t + p)) : ldS d W H t x y p = 1 := by
  unfold ldS ldB; rw [pB_t h]; rfl
theorem ldS_f {d : Nat → Int} {W H t p : Nat} {x y : Int} (h : ¬ (0 ≤ ((p % W : Nat) : Int) + x ∧ ((p % W : Nat) : Int) + x < W ∧ 0 ≤ ((p / W : Nat) : Int) + y ∧ ((p / W : Nat) : Int) + y < H ∧ d (64 * (t + 1) + ((W : Int) * (((p / W : Nat) : Int) + y) + (((p % W : Nat) : Int) + x)).toNat) = d (64 * t + p))) : ldS d W H t x y p = 0 := by
  unfold ldS ldB; rw [pB_f h]; rfl
theorem ldS_b (d : Nat → Int) (W H t : Nat) (x y : Int) (p : Nat) : 0 ≤ ldS d W H t x y p ∧ ldS d W H t x y p ≤ 1 := by
  unfold ldS
  cases ldB d W H t x y p
  · show (0 : Int) ≤ 0 ∧ (0 : Int) ≤ 1; omega
  · show (0 : Int) ≤ 1 ∧ (1 : Int) ≤ 1; omega
noncomputable def lcS (d : Nat → Int) (W H t : Nat) (x y : Int) : Int := sI (ldS d W H t x y) (W * H)
theorem lcS_b {d : Nat → Int} {W H t : Nat} {x y : Int} (hS : W * H ≤ 64) : 0 ≤ lcS d W H t x y ∧ lcS d W H t x y ≤ 64 := by
  have := sI_bound (f := ldS d W H t x y) (c := 1) (n := W * H) (fun k _ => ldS_b d W H t x y k)
  unfold lcS
  omega
theorem likeBy_ok {N t : Nat} {d cu sk se we : Nat → Int} {W H F : Nat} {s : Nat → Int} {x y : Int} (hs : SR s d cu sk se we W H F) (hv : FV d cu sk se we W H F) (ht : t + 1 < F) (hx : -2 ≤ x ∧ x ≤ 2) (hy : -2 ≤ y ∧ y ≤ 2) (hN : 400 < N) : Ok (fX12_likeBy N s t x y) (fun r => r = lcS d W H t x y) := by
  have hW := hv.1
  have hH := hv.2.1
  have hS := size_b hW hH
  have s0 := hs.1
  have s1 := hs.2.1
  unfold fX12_likeBy
  have hnz : ¬ iZ (W : Int) = iZ 0 := fun z => by rw [iZ_eq (by omega) (by omega) (by omega) (by omega)] at z; omega
  refine Ok.loop (fun m p a => fX12_likeBy_L6 N s t x y (fX12_likeBy_j124 N s t x y) m a (p : Int)) (W * H) (fun p a => a = sI (ldS d W H t x y) p) _ ?_ ?_ N 0 0 (by omega) (by omega) rfl
  · intro m p a hp hI ih
    show Ok (fX12_likeBy_b6 N s t x y _ _ a (p : Int)) _
    unfold fX12_likeBy_b6
    have hmod : mZ (p : Int) (W : Int) = ((p % W : Nat) : Int) := by rw [mZ_mod (by omega) (by omega)]; rfl
    have hdiv : dZ (p : Int) (W : Int) = ((p / W : Nat) : Int) := by rw [dZ_div (by omega) (by omega)]; rfl
    have hX : p % W < W := Nat.mod_lt p (by omega)
    have hY : p / W < H := Nat.div_lt_of_lt_mul hp
    have hYn : 0 ≤ ((p / W : Nat) : Int) := Int.natCast_nonneg _
    refine Ok.bind (mdots_ok hs) (fun r1 h1 => ?_)
    rw [h1, (show ((0 : Int)).toNat = 0 from rfl), (show ((1 : Int)).toNat = 1 from rfl), s0, s1, hmod, hdiv]
    refine Ok.ltp (by omega) (Ok.gd (by omega) (Ok.gd hnz (Ok.gd (by omega) (Ok.gd hnz (Ok.gd (by omega) ?_)))))
    have no : ∀ h : ¬ (0 ≤ ((p % W : Nat) : Int) + x ∧ ((p % W : Nat) : Int) + x < W ∧ 0 ≤ ((p / W : Nat) : Int) + y ∧ ((p / W : Nat) : Int) + y < H ∧ d (64 * (t + 1) + ((W : Int) * (((p / W : Nat) : Int) + y) + (((p % W : Nat) : Int) + x)).toNat) = d (64 * t + p)), a + 0 = sI (ldS d W H t x y) (p + 1) := by
      intro h
      rw [sI_succ, ldS_f h, hI]
    by_cases f1 : 0 ≤ ((p % W : Nat) : Int) + x ∧ ((p % W : Nat) : Int) + x ≤ (W : Int) - 1
    · refine Ok.bind (isIn_t (by omega) f1) (fun r8 h8 => Ok.eqn (by omega) (Ok.gd (by omega) ?_))
      by_cases f2 : 0 ≤ ((p / W : Nat) : Int) + y ∧ ((p / W : Nat) : Int) + y ≤ (H : Int) - 1
      · refine Ok.bind (isIn_t (by omega) f2) (fun r11 h11 => Ok.eqn (by omega) (Ok.gd (by omega) ?_))
        obtain ⟨X, hXe⟩ : ∃ X : Nat, ((p % W : Nat) : Int) + x = (X : Int) := ⟨(((p % W : Nat) : Int) + x).toNat, by omega⟩
        obtain ⟨Y, hYe⟩ : ∃ Y : Nat, ((p / W : Nat) : Int) + y = (Y : Int) := ⟨(((p / W : Nat) : Int) + y).toNat, by omega⟩
        have hpl : Y * W + X < W * H := place_b (by omega) (by omega)
        have epl : (W : Int) * (Y : Int) + (X : Int) = ((Y * W + X : Nat) : Int) := by rw [Int.natCast_add, Int.natCast_mul, Int.mul_comm]
        have e1 := hv.dB (t := t + 1) (by omega) (Y * W + X) hpl
        have e2 := hv.dB (t := t) (by omega) p hp
        rw [hXe, hYe, epl, show (t : Int) + 1 = ((t + 1 : Nat) : Int) by omega]
        refine Ok.bind (mdotAt_ok hs hv (by omega) hpl) (fun r14 h14 => Ok.bind (mdotAt_ok hs hv (by omega) hp) (fun r15 h15 => ?_))
        rw [hXe, hYe, epl, Int.toNat_natCast] at no
        refine Ok.eq (by omega) (fun q => ih _ ?_) (fun q => ih _ (no (fun z => q (by rw [h14, h15]; exact z.2.2.2.2))))
        rw [sI_succ, hI, ldS_t (by
          rw [hXe, hYe, epl, Int.toNat_natCast]
          exact ⟨by omega, by omega, by omega, by omega, by rw [← h14, ← h15]; exact q⟩)]
      · exact Ok.bind (isIn_f (by omega) f2) (fun r11 h11 => Ok.eqp h11 (ih _ (no (fun z => f2 ⟨z.2.2.1, by omega⟩))))
    · exact Ok.bind (isIn_f (by omega) f1) (fun r8 h8 => Ok.eqp h8 (ih _ (no (fun z => f1 ⟨z.1, by omega⟩))))
  · intro m a hI
    show Ok (fX12_likeBy_b6 N s t x y _ _ a ((W * H : Nat) : Int)) _
    unfold fX12_likeBy_b6 fX12_likeBy_j124
    refine Ok.bind (mdots_ok hs) (fun r1 h1 => ?_)
    rw [h1]
    exact Ok.ltn (by omega) (Ok.ret hI)
/-- from where, to where -/
theorem cut_b {w x : Int} (hw : 0 ≤ w ∧ w ≤ 8) (hx : -2 ≤ x ∧ x ≤ 2) : ∃ A B : Nat, mxZ 0 (-x) = (A : Int) ∧ mnZ w (w - x) ≤ (B : Int) ∧ (A < B → mnZ w (w - x) = (B : Int)) ∧ (B : Int) ≤ w ∧ A ≤ 2 ∧ (∀ c : Int, 0 ≤ c → c < w → ((0 ≤ c + x ∧ c + x < w) ↔ (A : Int) ≤ c ∧ c < B)) ∧ mnZ w (w - x) ≤ 8 ∧ -2 ≤ mnZ w (w - x) := by
  have h1 : mxZ 0 (-x) = if 0 < -x then -x else 0 := mxZ_max (by omega)
  have h2 : mnZ w (w - x) = if w - x < w then w - x else w := mnZ_min (by omega)
  rw [h1, h2]
  by_cases q : 0 < x
  · rw [if_neg (by omega), if_pos (by omega)]
    refine ⟨0, (w - x).toNat, by omega, by omega, by omega, by omega, by omega, ?_, by omega, by omega⟩
    intro c c1 c2
    omega
  · rw [if_neg (show ¬ w - x < w by omega)]
    by_cases q2 : x = 0
    · rw [if_neg (by omega)]
      refine ⟨0, w.toNat, by omega, by omega, by omega, by omega, by omega, ?_, by omega, by omega⟩
      intro c c1 c2
      omega
    · rw [if_pos (by omega)]
      refine ⟨(-x).toNat, w.toNat, by omega, by omega, by omega, by omega, by omega, ?_, by omega, by omega⟩
      intro c c1 c2
      omega
theorem dm {W r c : Nat} (hc : c < W) : (r * W + c) % W = c ∧ (r * W + c) / W = r := by
  constructor
  · rw [Nat.add_comm, Nat.add_mul_mod_self_right, Nat.mod_eq_of_lt hc]
  · rw [Nat.add_comm, Nat.add_mul_div_right _ _ (by omega), Nat.div_eq_of_lt hc, Nat.zero_add]
theorem cmove_ok {N t F : Nat} {d : Nat → Int} {W H : Nat} {x y : Int} (hW : 1 ≤ W ∧ W ≤ 8) (hH : 1 ≤ H ∧ H ≤ 8) (hF : F ≤ 24) (hd : DB d (W * H) F) (ht : t + 1 < F) (hx : -2 ≤ x ∧ x ≤ 2) (hy : -2 ≤ y ∧ y ≤ 2) (hN : 400 < N) : Ok (fX4_sameDots N W H d t x y) (fun r => r = lcS d W H t x y) := by
  have hS := size_b hW hH
  obtain ⟨A, B, a1, a2, a3, a4, a5, a6, a7, a8⟩ := cut_b (w := (W : Int)) (x := x) (by omega) hx
  obtain ⟨A', B', b1, b2, b3, b4, b5, b6, b7, b8⟩ := cut_b (w := (H : Int)) (x := y) (by omega) hy
  have zc : ∀ r c, c < W → r < H → ¬ (A ≤ c ∧ c < B) → ldS d W H t x y (r * W + c) = 0 := by
    intro r c hc hr h
    refine ldS_f ?_
    obtain ⟨e1, e2⟩ := dm (r := r) hc
    rw [e1, e2]
    intro z
    have := (a6 (c : Int) (by omega) (by omega)).mp ⟨z.1, z.2.1⟩
    omega
  have zr : ∀ r c, c < W → r < H → ¬ (A' ≤ r ∧ r < B') → ldS d W H t x y (r * W + c) = 0 := by
    intro r c hc hr h
    refine ldS_f ?_
    obtain ⟨e1, e2⟩ := dm (r := r) hc
    rw [e1, e2]
    intro z
    have := (b6 (r : Int) (by omega) (by omega)).mp ⟨z.2.2.1, z.2.2.2.1⟩
    omega
  have zrow : ∀ p, p < W * H → ¬ (A' ≤ p / W ∧ p / W < B') → ldS d W H t x y p = 0 := by
    intro p hp h
    have e := Nat.div_add_mod p W
    have h1 : p % W < W := Nat.mod_lt p (by omega)
    have h2 : p / W < H := Nat.div_lt_of_lt_mul hp
    have := zr (p / W) (p % W) h1 h2 h
    rw [Nat.mul_comm] at e
    rw [e] at this; exact this
  unfold fX4_sameDots
  rw [b1]
  have eB : ∃ e : Nat, e = if A' ≤ B' then B' else A' := ⟨_, rfl⟩
  obtain ⟨e, he⟩ := eB
  have he1 : A' ≤ e ∧ (B' ≤ e) ∧ (A' < e → e = B') ∧ e ≤ 8 := by
    by_cases q : A' ≤ B'
    · rw [if_pos q] at he; omega
    · rw [if_neg q] at he; omega
  refine Ok.loop (fun m r a => fX4_sameDots_L11 N W H d t x y (fX4_sameDots_j127 N W H d t x y) m a (r : Int)) e (fun r a => A' ≤ r ∧ (r ≤ H → a = sI (ldS d W H t x y) (r * W)) ∧ (H < r → a = 0)) _ ?_ ?_ N A' 0 (by omega) (by omega) ⟨Nat.le_refl _, ?_, fun _ => rfl⟩
  · intro m r a hr hI ih
    obtain ⟨k0, k1, k2⟩ := hI
    have heB : e = B' := he1.2.2.1 (by omega)
    have hb3 : mnZ (H : Int) ((H : Int) - y) = (B' : Int) := b3 (by omega)
    have hrH : r < H := by omega
    show Ok (fX4_sameDots_b11 N W H d t x y _ _ a (r : Int)) _
    unfold fX4_sameDots_b11
    rw [hb3, a1]
    refine Ok.ltp (by omega) ?_
    have hrow : r * W + W ≤ W * H := by
      have := Nat.mul_le_mul_right W (show r + 1 ≤ H from hrH)
      rw [Nat.add_mul, Nat.one_mul, Nat.mul_comm H W] at this; exact this
    obtain ⟨e2, he2⟩ : ∃ e2 : Nat, e2 = if A ≤ B then B else A := ⟨_, rfl⟩
    have he3 : A ≤ e2 ∧ B ≤ e2 ∧ (A < e2 → e2 = B) := by
      by_cases q : A ≤ B
      · rw [if_pos q] at he2; omega
      · rw [if_neg q] at he2; omega
    have fin : ∀ a2, a2 = sI (ldS d W H t x y) ((r + 1) * W) → Ok (fX4_sameDots_j121 N W H d t x y (fX4_sameDots_L11 N W H d t x y (fX4_sameDots_j127 N W H d t x y) m) (fX4_sameDots_j127 N W H d t x y) a2 (r : Int)) (fun r => r = lcS d W H t x y) := by
      intro a2 ha2
      unfold fX4_sameDots_j121
      rw [show (r : Int) + 1 = ((r + 1 : Nat) : Int) by omega]
      exact ih a2 ⟨by omega, fun _ => ha2, fun z => by omega⟩
    have eW : (r + 1) * W = r * W + W := by rw [Nat.add_mul, Nat.one_mul]
    refine Ok.loop (fun q c b => fX4_sameDots_L37 N W H d t x y (fX4_sameDots_j121 N W H d t x y (fX4_sameDots_L11 N W H d t x y (fX4_sameDots_j127 N W H d t x y) m) (fX4_sameDots_j127 N W H d t x y)) q b (r : Int) (c : Int)) e2 (fun c b => A ≤ c ∧ (c ≤ W → b = sI (ldS d W H t x y) (r * W + c)) ∧ (W < c → b = sI (ldS d W H t x y) (r * W + W))) _ ?_ ?_ N A a (by omega) (by omega) ⟨Nat.le_refl _, ?_, ?_⟩
    · intro q c b hc hI2 ih2
      obtain ⟨l0, l1, l2⟩ := hI2
      have heB2 : e2 = B := he3.2.2 (by omega)
      have ha3 : mnZ (W : Int) ((W : Int) - x) = (B : Int) := a3 (by omega)
      have hcW : c < W := by omega
      show Ok (fX4_sameDots_b37 N W H d t x y _ _ b (r : Int) (c : Int)) _
      unfold fX4_sameDots_b37
      obtain ⟨m1, m2⟩ := dm (r := r) hcW
      have hin1 := (a6 (c : Int) (by omega) (by omega)).mpr ⟨by omega, by omega⟩
      have hin2 := (b6 (r : Int) (by omega) (by omega)).mpr ⟨by omega, by omega⟩
      obtain ⟨X, hXe⟩ : ∃ X : Nat, (c : Int) + x = (X : Int) := ⟨((c : Int) + x).toNat, by omega⟩
      obtain ⟨Y, hYe⟩ : ∃ Y : Nat, (r : Int) + y = (Y : Int) := ⟨((r : Int) + y).toNat, by omega⟩
      have hpl : Y * W + X < W * H := place_b (by omega) (by omega)
      have hp : r * W + c < W * H := by omega
      have erW : (r : Int) * (W : Int) = ((r * W : Nat) : Int) := by rw [Int.natCast_mul]
      have eYW : (r : Int) * (W : Int) + y * (W : Int) = ((Y * W : Nat) : Int) := by rw [← Int.add_mul, hYe, Int.natCast_mul]
      have epl : (t : Int) * 64 + (r : Int) * (W : Int) + (c : Int) + 64 + y * (W : Int) + x = ((64 * (t + 1) + (Y * W + X) : Nat) : Int) := by omega
      have ep0 : ((t : Int) * 64 + (r : Int) * (W : Int) + (c : Int)).toNat = 64 * t + (r * W + c) := by omega
      have d1 := hd (t + 1) (Y * W + X) (by omega) hpl
      have d2 := hd t (r * W + c) (by omega) hp
      rw [ha3, epl, ep0, Int.toNat_natCast]
      refine Ok.ltp (by omega) (Ok.gd (by omega) (Ok.gd (by omega) ?_))
      have ecell : (W : Int) * (Y : Int) + (X : Int) = ((Y * W + X : Nat) : Int) := by rw [Int.natCast_add, Int.natCast_mul, Int.mul_comm]
      have es : sI (ldS d W H t x y) (r * W + (c + 1)) = sI (ldS d W H t x y) (r * W + c) + ldS d W H t x y (r * W + c) := rfl
      refine Ok.eq (by omega) (fun z => ih2 _ ⟨by omega, ?_, fun w => by omega⟩) (fun z => ih2 _ ⟨by omega, ?_, fun w => by omega⟩)
      · intro _
        rw [es, l1 (by omega), ldS_t (by
          rw [m1, m2, hXe, hYe, ecell, Int.toNat_natCast]
          exact ⟨by omega, by omega, by omega, by omega, z.symm⟩)]
      · intro _
        rw [es, l1 (by omega), ldS_f (by
          rw [m1, m2, hXe, hYe, ecell, Int.toNat_natCast]
          intro w
          exact z w.2.2.2.2.symm)]
    · intro q b hI2
      obtain ⟨l0, l1, l2⟩ := hI2
      show Ok (fX4_sameDots_b37 N W H d t x y _ _ b (r : Int) (e2 : Int)) _
      unfold fX4_sameDots_b37
      refine Ok.ltn (by omega) (fin b ?_)
      rw [eW]
      by_cases w : e2 ≤ W
      · rw [l1 w]
        refine (sI_tail (a := r * W + e2) (by omega) ?_).symm
        intro k g1 g2
        have ek : k = r * W + (k - r * W) := by omega
        rw [ek]; exact zc r (k - r * W) (by omega) hrH (by omega)
      · exact l2 (by omega)
    · intro hA
      rw [k1 (by omega)]
      refine (sI_tail (a := r * W) (by omega) ?_).symm
      intro k g1 g2
      have ek : k = r * W + (k - r * W) := by omega
      rw [ek]; exact zc r (k - r * W) (by omega) hrH (by omega)
    · intro hA
      rw [k1 (by omega)]
      refine (sI_tail (a := r * W) (by omega) ?_).symm
      intro k g1 g2
      have ek : k = r * W + (k - r * W) := by omega
      rw [ek]; exact zc r (k - r * W) (by omega) hrH (by omega)
  · intro m a hI
    obtain ⟨k0, k1, k2⟩ := hI
    show Ok (fX4_sameDots_b11 N W H d t x y _ _ a (e : Int)) _
    unfold fX4_sameDots_b11 fX4_sameDots_j127
    refine Ok.ltn (by omega) (Ok.ret ?_)
    unfold lcS
    by_cases w : e ≤ H
    · rw [k1 w]
      refine (sI_tail (a := e * W) ?_ ?_).symm
      · have := Nat.mul_le_mul_right W w
        rw [Nat.mul_comm H W] at this; exact this
      · intro k g1 g2
        refine zrow k g2 ?_
        have h1 : e ≤ k / W := (Nat.le_div_iff_mul_le (by omega)).mpr g1
        omega
    · rw [k2 (by omega)]
      refine (sI_zero ?_).symm
      intro k g2
      refine zrow k g2 ?_
      have h2 : k / W < H := Nat.div_lt_of_lt_mul g2
      omega
  · intro hA
    refine (sI_zero ?_).symm
    intro k g2
    have h3 : A' * W ≤ W * H := by
      have := Nat.mul_le_mul_right W hA
      rw [Nat.mul_comm H W] at this; exact this
    refine zrow k (by omega) ?_
    have h2 : k / W < A' := Nat.div_lt_of_lt_mul (by rw [Nat.mul_comm]; exact g2)
    omega
end PU
