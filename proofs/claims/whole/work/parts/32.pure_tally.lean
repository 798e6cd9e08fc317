/-! Tally.read: the counts put together. -/
section P1
/-- of a row of dots, the shades up to v -/
def cumS (d : Nat → Int) (S t v : Nat) : Int := sI (fun p => if d (64 * t + p) ≤ (v : Int) then 1 else 0) S
def cntS (d : Nat → Int) (S t v : Nat) : Int := sI (fun p => if d (64 * t + p) = (v : Int) then 1 else 0) S
def meanS (d : Nat → Int) (S t : Nat) : Int := sI (fun p => d (64 * t + p)) S
theorem cumS_b (d : Nat → Int) (S t v : Nat) : 0 ≤ cumS d S t v ∧ cumS d S t v ≤ S := by
  have h := sI_bound (f := fun p => if d (64 * t + p) ≤ (v : Int) then (1 : Int) else 0) (c := 1) (n := S) (fun k _ => by by_cases q : d (64 * t + k) ≤ (v : Int) <;> simp only [q, if_true, if_false] <;> omega)
  have e1 : (S : Int) * 1 = S := Int.mul_one _
  rw [e1] at h; exact h
theorem cntS_b (d : Nat → Int) (S t v : Nat) : 0 ≤ cntS d S t v ∧ cntS d S t v ≤ S := by
  have h := sI_bound (f := fun p => if d (64 * t + p) = (v : Int) then (1 : Int) else 0) (c := 1) (n := S) (fun k _ => by by_cases q : d (64 * t + k) = (v : Int) <;> simp only [q, if_true, if_false] <;> omega)
  have e1 : (S : Int) * 1 = S := Int.mul_one _
  rw [e1] at h; exact h
theorem cumS_succ (d : Nat → Int) (S t v : Nat) : cumS d S t (v + 1) = cumS d S t v + cntS d S t (v + 1) := by
  unfold cumS cntS
  rw [← sI_add]
  refine sI_cong (fun k _ => ?_)
  by_cases q : d (64 * t + k) ≤ (v : Int)
  · rw [if_pos (by omega), if_pos q, if_neg (by omega)]; rfl
  · by_cases q2 : d (64 * t + k) = ((v + 1 : Nat) : Int)
    · rw [if_pos (by omega), if_neg q, if_pos q2]; rfl
    · rw [if_neg (by omega), if_neg q, if_neg q2]; rfl
theorem cumS_zero {d : Nat → Int} {S t : Nat} (h : ∀ p, p < S → 0 ≤ d (64 * t + p)) : cumS d S t 0 = cntS d S t 0 := by
  unfold cumS cntS
  refine sI_cong (fun k hk => ?_)
  have := h k hk
  by_cases q : d (64 * t + k) = ((0 : Nat) : Int)
  · rw [if_pos (by omega), if_pos q]
  · rw [if_neg (by omega), if_neg q]
theorem read_count {N : Nat} {d : Nat → Int} {F S t : Nat} {kk : Int → Int → (Nat → Int) → Option (Nat → Int)} {P : (Nat → Int) → Prop} (ht : t < 24) (hS : S ≤ 64) (hN : 70 < N) (hd : ∀ p, p < S → 0 ≤ d (64 * t + p) ∧ d (64 * t + p) ≤ 15) (g0 : Nat → Int) (h0 : ∀ v, v < 16 → g0 (16 * t + v) = 0)
    (hk : ∀ g : Nat → Int, (∀ v, v < 16 → g (16 * t + v) = cntS d S t v) → (∀ j, (j < 16 * t ∨ 16 * t + 16 ≤ j) → g j = g0 j) → Ok (kk t (t * 16 : Int) g) P) : Ok (fX9_read_L27 N d F S kk N t (t * 16 : Int) 0 g0) P := by
  refine Ok.loop (fun m i g => fX9_read_L27 N d F S kk m t (t * 16 : Int) (i : Int) g) S (fun i g => (∀ v, v < 16 → g (16 * t + v) = cntS d i t v) ∧ ∀ j, (j < 16 * t ∨ 16 * t + 16 ≤ j) → g j = g0 j) _ ?_ ?_ N 0 g0 (by omega) (by omega) ⟨fun v hv => h0 v hv, fun j _ => rfl⟩
  · intro m i g hi hI ih
    show Ok (fX9_read_b27 N d F S _ _ (t : Int) (t * 16 : Int) (i : Int) g) _
    unfold fX9_read_b27
    have hdi := hd i hi
    have e1 : ((t : Int) * 64 + (i : Int)).toNat = 64 * t + i := by omega
    rw [e1]
    refine Ok.ltp (by omega) (Ok.gd (by omega) ?_)
    obtain ⟨w, hw⟩ : ∃ w : Nat, d (64 * t + i) = (w : Int) := ⟨(d (64 * t + i)).toNat, by omega⟩
    rw [hw] at hdi ⊢
    have e2 : ((t : Int) * 16 + (w : Int)).toNat = 16 * t + w := by omega
    rw [e2]
    refine Ok.gd (by omega) (Ok.gd (by omega) ?_)
    refine ih _ ⟨fun v hv => ?_, fun j hj => ?_⟩
    · have e3 : cntS d (i + 1) t v = cntS d i t v + if d (64 * t + i) = (v : Int) then 1 else 0 := rfl
      rw [e3, hw]
      by_cases q : v = w
      · rw [q, uZ_at, hI.1 w (by omega), if_pos rfl]
      · rw [uZ_ne (by omega), hI.1 v hv, if_neg (by omega), Int.add_zero]
    · rw [uZ_ne (by omega)]; exact hI.2 j hj
  · intro m g hI
    show Ok (fX9_read_b27 N d F S _ _ (t : Int) (t * 16 : Int) (S : Int) g) _
    unfold fX9_read_b27
    exact Ok.ltn (by omega) (hk g hI.1 hI.2)
theorem read_sum {N : Nat} {d : Nat → Int} {F S t : Nat} {kk : Int → (Nat → Int) → Option (Nat → Int)} {P : (Nat → Int) → Prop} (ht : t < 24) (hN : 70 < N) (hd : ∀ p, p < S → 0 ≤ d (64 * t + p)) (g0 : Nat → Int) (h0 : ∀ v, v < 16 → g0 (16 * t + v) = cntS d S t v)
    (hk : ∀ g : Nat → Int, (∀ v, v < 16 → g (16 * t + v) = cumS d S t v) → (∀ j, (j < 16 * t ∨ 16 * t + 16 ≤ j) → g j = g0 j) → Ok (kk t g) P) : Ok (fX9_read_L64 N d F S kk N t (t * 16 : Int) 1 g0) P := by
  refine Ok.loop (fun m i g => fX9_read_L64 N d F S kk m t (t * 16 : Int) (i : Int) g) 16 (fun i g => 1 ≤ i ∧ (∀ v, v < 16 → g (16 * t + v) = if v < i then cumS d S t v else cntS d S t v) ∧ ∀ j, (j < 16 * t ∨ 16 * t + 16 ≤ j) → g j = g0 j) _ ?_ ?_ N 1 g0 (by omega) (by omega) ⟨by omega, fun v hv => ?_, fun j _ => rfl⟩
  · intro m i g hi hI ih
    obtain ⟨hi1, hI⟩ := hI
    show Ok (fX9_read_b64 N d F S _ _ (t : Int) (t * 16 : Int) (i : Int) g) _
    unfold fX9_read_b64
    have e1 : ((t : Int) * 16 + (i : Int)).toNat = 16 * t + i := by omega
    have e2 : ((t : Int) * 16 + (i : Int) - 1).toNat = 16 * t + (i - 1) := by omega
    rw [e1, e2]
    refine Ok.ltp (by omega) (Ok.gd (by omega) (Ok.gd (by omega) (Ok.gd (by omega) ?_)))
    refine ih _ ⟨by omega, fun v hv => ?_, fun j hj => ?_⟩
    · by_cases q : v = i
      · rw [q, uZ_at, hI.1 i (by omega), hI.1 (i - 1) (by omega), if_neg (by omega), if_pos (by omega), if_pos (by omega)]
        have e3 := cumS_succ d S t (i - 1)
        rw [show i - 1 + 1 = i by omega] at e3
        rw [e3]; omega
      · rw [uZ_ne (by omega), hI.1 v hv]
        by_cases q2 : v < i
        · rw [if_pos q2, if_pos (by omega)]
        · rw [if_neg q2, if_neg (by omega)]
    · rw [uZ_ne (by omega)]; exact hI.2 j hj
  · intro m g hI
    show Ok (fX9_read_b64 N d F S _ _ (t : Int) (t * 16 : Int) ((16 : Nat) : Int) g) _
    unfold fX9_read_b64
    exact Ok.ltn (by omega) (hk g (fun v hv => by rw [hI.2.1 v hv, if_pos hv]) hI.2.2)
  · by_cases q : v < 1
    · rw [if_pos q, h0 v hv, show v = 0 by omega, cumS_zero hd]
    · rw [if_neg q]; exact h0 v hv
theorem read_ok {N : Nat} {d c : Nat → Int} {F S : Nat} (hF : F ≤ 24) (hS : S ≤ 64) (hN : 400 < N) (hd : ∀ t p, t < F → p < S → 0 ≤ d (64 * t + p) ∧ d (64 * t + p) ≤ 15) : Ok (fX9_read N d c F S) (fun g => ∀ t v, t < 24 → v < 16 → g (16 * t + v) = if t < F then cumS d S t v else 0) := by
  unfold fX9_read
  refine Ok.bind (fill_ok (by omega) (by omega)) (fun g1 hg1 => ?_)
  refine Ok.loop (fun m i g => fX9_read_L11 N d F S (fX9_read_j108 N d F S) m (i : Int) g) F (fun i g => ∀ t v, t < 24 → v < 16 → g (16 * t + v) = if t < i then cumS d S t v else 0) _ ?_ ?_ N 0 g1 (by omega) (by omega) (fun t v ht hv => by rw [hg1, if_pos (by omega), if_neg (by omega)])
  · intro m i g hi hI ih
    show Ok (fX9_read_b11 N d F S _ _ (i : Int) g) _
    unfold fX9_read_b11
    refine Ok.ltp (by omega) ?_
    refine read_count (by omega) hS (by omega) (fun p hp => hd i p hi hp) g (fun v hv => by rw [hI i v (by omega) hv, if_neg (by omega)]) (fun g2 hc2 ho2 => ?_)
    unfold fX9_read_j61
    refine read_sum (by omega) (by omega) (fun p hp => (hd i p hi hp).1) g2 hc2 (fun g3 hc3 ho3 => ?_)
    unfold fX9_read_j102
    refine ih g3 (fun t v ht hv => ?_)
    by_cases q : t = i
    · rw [q, if_pos (by omega)]; exact hc3 v hv
    · rw [ho3 _ (by omega), ho2 _ (by omega), hI t v ht hv]
      by_cases q2 : t < i
      · rw [if_pos q2, if_pos (by omega)]
      · rw [if_neg q2, if_neg (by omega)]
  · intro m g hI
    show Ok (fX9_read_b11 N d F S _ _ (F : Int) g) _
    unfold fX9_read_b11
    exact Ok.ltn (by omega) (Ok.ret hI)
end P1
