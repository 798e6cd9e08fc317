/-! Rows of sixteen: how many of a shade, means, shades, gaps; of the class and of the reference. -/
section P2
def numS (c : Nat → Int) (t v : Nat) : Int := c (16 * t + v) - (if v = 0 then 0 else c (16 * t + v - 1))
def shadesS (c : Nat → Int) (t : Nat) : Int := sI (fun v => if 0 < numS c t v then 1 else 0) 16
def meanC (c : Nat → Int) (t : Nat) : Int := sI (fun v => (v : Int) * numS c t v) 16
/-- entries of a row of 24 times 16, within bounds -/
def RowB (c : Nat → Int) : Prop := ∀ j, j < 384 → 0 ≤ c j ∧ c j ≤ 64
theorem numS_b {c : Nat → Int} (h : RowB c) {t v : Nat} (ht : t < 24) (hv : v < 16) : -64 ≤ numS c t v ∧ numS c t v ≤ 64 := by
  unfold numS
  have h1 := h (16 * t + v) (by omega)
  by_cases q : v = 0
  · rw [if_pos q]; omega
  · have h2 := h (16 * t + v - 1) (by omega)
    rw [if_neg q]; omega
theorem number_ok {N : Nat} {c : Nat → Int} {t v : Nat} (ht : t < 24) (hv : v < 16) : Ok (fX9_number N c t v) (fun r => r = numS c t v) := by
  unfold fX9_number
  have e1 : ((t : Int) * 16 + (v : Int)).toNat = 16 * t + v := by omega
  have e2 : ((t : Int) * 16 + (v : Int) - 1).toNat = 16 * t + v - 1 := by omega
  rw [e1, e2]
  unfold numS
  refine Ok.eq (by omega) (fun q => ?_) (fun q => ?_)
  · exact Ok.gd (by omega) (Ok.ret (by rw [if_pos (by omega)]))
  · exact Ok.gd (by omega) (Ok.gd (by omega) (Ok.ret (by rw [if_neg (by omega)])))
theorem countIn_ok {N : Nat} {c : Nat → Int} {t v : Nat} (ht : t < 24) (hv : v < 16) : Ok (fX12_countIn N c t v) (fun r => r = numS c t v) := by
  unfold fX12_countIn
  have e1 : (16 * (t : Int) + (v : Int)).toNat = 16 * t + v := by omega
  have e2 : (16 * (t : Int) + (v : Int) - 1).toNat = 16 * t + v - 1 := by omega
  rw [e1, e2]
  unfold numS
  refine Ok.gd (by omega) ?_
  refine Ok.eq (by omega) (fun q => ?_) (fun q => ?_)
  · exact Ok.ret (by rw [if_pos (by omega)])
  · exact Ok.gd (by omega) (Ok.ret (by rw [if_neg (by omega)]))
theorem mean_ok {N : Nat} {c : Nat → Int} {t : Nat} (ht : t < 24) (hN : 20 < N) : Ok (fX9_mean N c t) (fun r => r = meanC c t) := by
  unfold fX9_mean
  refine Ok.loop (fun m i s => fX9_mean_L4 N c t (fX9_mean_j27 N c t) m s (i : Int)) 16 (fun i s => s = sI (fun v => (v : Int) * numS c t v) i) _ ?_ ?_ N 1 0 (by omega) (by omega) (by show (0 : Int) = 0 + ((0 : Nat) : Int) * _; simp)
  · intro m i s hi hI ih
    show Ok (fX9_mean_b4 N c t _ _ s (i : Int)) _
    unfold fX9_mean_b4
    refine Ok.ltp (by omega) (Ok.bind (number_ok ht hi) (fun r hr => ?_))
    exact ih _ (by rw [sI_succ, ← hI, hr])
  · intro m s hI
    show Ok (fX9_mean_b4 N c t _ _ s ((16 : Nat) : Int)) _
    unfold fX9_mean_b4
    exact Ok.ltn (by omega) (Ok.ret hI)
theorem shades_ok {N : Nat} {c : Nat → Int} {t : Nat} (ht : t < 24) (hN : 20 < N) (hc : RowB c) : Ok (fX9_shades N c t) (fun r => r = shadesS c t) := by
  unfold fX9_shades
  refine Ok.loop (fun m i s => fX9_shades_L4 N c t (fX9_shades_j33 N c t) m s (i : Int)) 16 (fun i s => s = sI (fun v => if 0 < numS c t v then 1 else 0) i) _ ?_ ?_ N 0 0 (by omega) (by omega) rfl
  · intro m i s hi hI ih
    show Ok (fX9_shades_b4 N c t _ _ s (i : Int)) _
    unfold fX9_shades_b4
    refine Ok.ltp (by omega) (Ok.bind (number_ok ht hi) (fun r hr => ?_))
    have hb := numS_b hc ht hi
    refine Ok.lt (by omega) (fun q => ?_) (fun q => ?_)
    · exact ih _ (by rw [sI_succ, ← hI, if_pos (by omega)])
    · exact ih _ (by rw [sI_succ, ← hI, if_neg (by omega)])
  · intro m s hI
    show Ok (fX9_shades_b4 N c t _ _ s ((16 : Nat) : Int)) _
    unfold fX9_shades_b4
    exact Ok.ltn (by omega) (Ok.ret hI)
theorem shadesIn_ok {N : Nat} {c : Nat → Int} {t : Nat} (ht : t < 24) (hN : 20 < N) (hc : RowB c) : Ok (fX12_shadesIn N c t) (fun r => r = shadesS c t) := by
  unfold fX12_shadesIn
  refine Ok.loop (fun m i s => fX12_shadesIn_L4 N c t (fX12_shadesIn_j33 N c t) m s (i : Int)) 16 (fun i s => s = sI (fun v => if 0 < numS c t v then 1 else 0) i) _ ?_ ?_ N 0 0 (by omega) (by omega) rfl
  · intro m i s hi hI ih
    show Ok (fX12_shadesIn_b4 N c t _ _ s (i : Int)) _
    unfold fX12_shadesIn_b4
    refine Ok.ltp (by omega) (Ok.bind (countIn_ok ht hi) (fun r hr => ?_))
    have hb := numS_b hc ht hi
    refine Ok.lt (by omega) (fun q => ?_) (fun q => ?_)
    · exact ih _ (by rw [sI_succ, ← hI, if_pos (by omega)])
    · exact ih _ (by rw [sI_succ, ← hI, if_neg (by omega)])
  · intro m s hI
    show Ok (fX12_shadesIn_b4 N c t _ _ s ((16 : Nat) : Int)) _
    unfold fX12_shadesIn_b4
    exact Ok.ltn (by omega) (Ok.ret hI)
theorem off_ok {N : Nat} {a b : Int} (h : (-1000000000 ≤ a ∧ a ≤ 1000000000) ∧ -1000000000 ≤ b ∧ b ≤ 1000000000) : Ok (fX12_off N a b) (fun r => r = ab (a - b)) := by
  unfold fX12_off ab
  refine Ok.lt (by omega) (fun q => ?_) (fun q => ?_)
  · exact Ok.ret (by rw [if_pos (by omega)]; omega)
  · exact Ok.ret (by rw [if_neg (by omega)])
theorem gapS_b {c : Nat → Int} (h : RowB c) {t u : Nat} (ht : t < 24) (hu : u < 24) : 0 ≤ gapS c t u ∧ gapS c t u ≤ 1024 := by
  have h1 := sI_bound (f := fun v => ab (c (16 * t + v) - c (16 * u + v))) (c := 64) (n := 16) (fun k hk => ⟨ab_nn _, ab_le (by have := h (16 * t + k) (by omega); have := h (16 * u + k) (by omega); omega)⟩)
  unfold gapS
  omega
theorem gapS_sym (c : Nat → Int) (t u : Nat) : gapS c t u = gapS c u t := sI_cong (fun k _ => ab_sym _ _)
theorem apartBy_ok {N : Nat} {c : Nat → Int} {t u : Nat} (ht : t < 24) (hu : u < 24) (hN : 20 < N) (hc : RowB c) : Ok (fX12_apartBy N c t u) (fun r => r = gapS c t u) := by
  unfold fX12_apartBy
  refine Ok.loop (fun m i s => fX12_apartBy_L5 N c t u (fX12_apartBy_j42 N c t u) m s (i : Int)) 16 (fun i s => s = sI (fun v => ab (c (16 * t + v) - c (16 * u + v))) i) _ ?_ ?_ N 0 0 (by omega) (by omega) rfl
  · intro m i s hi hI ih
    show Ok (fX12_apartBy_b5 N c t u _ _ s (i : Int)) _
    unfold fX12_apartBy_b5
    have e1 : (16 * (t : Int) + (i : Int)).toNat = 16 * t + i := by omega
    have e2 : (16 * (u : Int) + (i : Int)).toNat = 16 * u + i := by omega
    have h1 := hc (16 * t + i) (by omega)
    have h2 := hc (16 * u + i) (by omega)
    rw [e1, e2]
    refine Ok.ltp (by omega) (Ok.gd (by omega) (Ok.gd (by omega) (Ok.bind (off_ok (by omega)) (fun r hr => ?_))))
    exact ih _ (by rw [sI_succ, ← hI, hr])
  · intro m s hI
    show Ok (fX12_apartBy_b5 N c t u _ _ s ((16 : Nat) : Int)) _
    unfold fX12_apartBy_b5
    exact Ok.ltn (by omega) (Ok.ret hI)
/-- is a frame's row the first of its kind -/
def newS (c : Nat → Int) (t : Nat) : Prop := ∀ u, u < t → gapS c u t ≠ 0
theorem isNew_ok {N : Nat} {c : Nat → Int} {t : Nat} (ht : t < 24) (hN : 30 < N) (hc : RowB c) : Ok (fX9_isNew N c t) (fun r => (r = 1 ∧ newS c t) ∨ (r = 0 ∧ ¬ newS c t)) := by
  unfold fX9_isNew
  refine Ok.loop (fun m i (_ : Unit) => fX9_isNew_L2 N c t (fX9_isNew_j24 N c t) m (i : Int)) t (fun i _ => ∀ u, u < i → gapS c u t ≠ 0) _ ?_ ?_ N 0 () (by omega) (by omega) (fun u hu => by omega)
  · intro m i s hi hI ih
    show Ok (fX9_isNew_b2 N c t _ _ (i : Int)) _
    unfold fX9_isNew_b2
    refine Ok.ltp (by omega) (Ok.bind (gap_ok (by omega) ht (by omega) hc) (fun r hr => ?_))
    have hb := gapS_b hc (show i < 24 by omega) ht
    refine Ok.eq (by omega) (fun q => ?_) (fun q => ?_)
    · exact Ok.ret (Or.inr ⟨rfl, fun z => z i hi (by omega)⟩)
    · refine ih () (fun u hu => ?_)
      rcases Nat.lt_or_ge u i with q2 | q2
      · exact hI u q2
      · rw [show u = i by omega]; omega
  · intro m s hI
    show Ok (fX9_isNew_b2 N c t _ _ (t : Int)) _
    unfold fX9_isNew_b2
    exact Ok.ltn (by omega) (Ok.ret (Or.inl ⟨rfl, hI⟩))
end P2
