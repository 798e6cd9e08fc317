/-! Scenes: where one begins; how many; of which a frame is. -/
section P3
def ctB (b : Nat → Bool) : Nat → Nat
  | 0 => 0
  | n + 1 => ctB b n + (if b n then 1 else 0)
theorem ctB_succ (b : Nat → Bool) (n : Nat) : ctB b (n + 1) = ctB b n + (if b n then 1 else 0) := rfl
theorem ctB_le (b : Nat → Bool) : ∀ n, ctB b n ≤ n
  | 0 => Nat.le_refl 0
  | n + 1 => by
    have h := ctB_le b n
    rw [ctB_succ]
    by_cases q : b n = true
    · rw [if_pos q]; omega
    · rw [if_neg q]; omega
theorem ctB_step (b : Nat → Bool) (m : Nat) : ∀ n, ctB b m ≤ ctB b (m + n)
  | 0 => Nat.le_refl _
  | n + 1 => by
    have h := ctB_step b m n
    have e1 : ctB b (m + (n + 1)) = ctB b (m + n) + (if b (m + n) then 1 else 0) := rfl
    omega
theorem ctB_mono (b : Nat → Bool) {m n : Nat} (h : m ≤ n) : ctB b m ≤ ctB b n := by
  have := ctB_step b m (n - m)
  rw [show m + (n - m) = n by omega] at this
  exact this
theorem ctB_cong {b b' : Nat → Bool} : ∀ {n : Nat}, (∀ k, k < n → b k = b' k) → ctB b n = ctB b' n
  | 0, _ => rfl
  | n + 1, h => by rw [ctB_succ, ctB_succ, ctB_cong (fun k hk => h k (by omega)), h n (by omega)]
/-- a frame begins a scene -/
def begP (cu : Nat → Int) (bo : Int) (c : Nat → Int) (t : Nat) : Prop := t = 0 ∨ cu t = 1 ∨ (0 < bo ∧ bo < gapS c (t - 1) t)
theorem begP_dec (cu : Nat → Int) (bo : Int) (c : Nat → Int) (t : Nat) : begP cu bo c t ∨ ¬ begP cu bo c t := Classical.em _
noncomputable def begB (cu : Nat → Int) (bo : Int) (c : Nat → Int) : Nat → Bool := fun t => (Classical.propDecidable (begP cu bo c t)).decide
theorem begB_t {cu : Nat → Int} {bo : Int} {c : Nat → Int} {t : Nat} : begB cu bo c t = true ↔ begP cu bo c t := by
  unfold begB
  cases Classical.propDecidable (begP cu bo c t) with
  | isTrue h => exact ⟨fun _ => h, fun _ => rfl⟩
  | isFalse h => exact ⟨fun z => (by cases z), fun z => absurd z h⟩
theorem begB_f {cu : Nat → Int} {bo : Int} {c : Nat → Int} {t : Nat} : begB cu bo c t = false ↔ ¬ begP cu bo c t := by
  rw [← begB_t (cu := cu) (bo := bo) (c := c)]
  cases begB cu bo c t <;> simp
theorem isFirst_ok {N : Nat} {cu se c : Nat → Int} {t : Nat} (ht : t < 24) (hN : 20 < N) (hc : RowB c) (hcu : cu t = 0 ∨ cu t = 1) (hbo : 0 ≤ se 4 ∧ se 4 ≤ 999) : Ok (fX8_isFirst N cu se c t) (fun r => (r = 1 ∧ begP cu (se 4) c t) ∨ (r = 0 ∧ ¬ begP cu (se 4) c t)) := by
  unfold fX8_isFirst
  have e4 : ((4 : Int).toNat) = 4 := rfl
  have e1 : ((t : Int)).toNat = t := Int.toNat_natCast t
  rw [e4, e1]
  refine Ok.eq (by omega) (fun q => Ok.ret (Or.inl ⟨rfl, Or.inl (by omega)⟩)) (fun q => Ok.gd (by omega) ?_)
  refine Ok.eq (by omega) (fun q2 => Ok.ret (Or.inl ⟨rfl, Or.inr (Or.inl q2)⟩)) (fun q2 => Ok.gd (by omega) ?_)
  refine Ok.lt (by omega) (fun q3 => ?_) (fun q3 => Ok.ret (Or.inr ⟨rfl, fun z => ?_⟩))
  · have e2 : ((t : Int) - 1) = ((t - 1 : Nat) : Int) := by omega
    rw [e2]
    refine Ok.bind (gap_ok (by omega) ht (by omega) hc) (fun r hr => ?_)
    have hb := gapS_b hc (show t - 1 < 24 by omega) ht
    refine Ok.lt (by omega) (fun q4 => Ok.ret (Or.inl ⟨rfl, Or.inr (Or.inr ⟨q3, by omega⟩)⟩)) (fun q4 => Ok.ret (Or.inr ⟨rfl, fun z => ?_⟩))
    rcases z with z | z | z
    · omega
    · exact q2 z
    · omega
  · rcases z with z | z | z
    · omega
    · exact q2 z
    · omega
/-- what Scenes holds, once it is found -/
def ScR (b : Nat → Bool) (F : Nat) (many : Int) (so fo : Nat → Int) : Prop := many = (ctB b F : Int) ∧ (∀ t, t < F → so t = (ctB b (t + 1) : Int) - 1) ∧ (∀ t, t < F → b t = true → fo (ctB b t) = (t : Int)) ∧ fo (ctB b F) = (F : Int)
theorem find_ok {N F : Nat} {cu se c so fo : Nat → Int} {many : Int} (hF : F ≤ 24) (hN : 40 < N) (hc : RowB c) (hcu : ∀ t, t < 24 → cu t = 0 ∨ cu t = 1) (hbo : 0 ≤ se 4 ∧ se 4 ≤ 999) : Ok (fX8_find N F cu se c many so fo) (fun r => ScR (begB cu (se 4) c) F r.1 r.2.1 r.2.2) := by
  unfold fX8_find
  refine Ok.loop (fun m i (s : Int × (Nat → Int) × (Nat → Int)) => fX8_find_L7 N F cu se c (fX8_find_j62 N F cu se c) m (i : Int) s.1 s.2.1 s.2.2) F (fun i s => s.1 = (ctB (begB cu (se 4) c) i : Int) ∧ (∀ t, t < i → s.2.1 t = (ctB (begB cu (se 4) c) (t + 1) : Int) - 1) ∧ (∀ t, t < i → begB cu (se 4) c t = true → s.2.2 (ctB (begB cu (se 4) c) t) = (t : Int))) _ ?_ ?_ N 0 (0, so, fo) (by omega) (by omega) ⟨rfl, fun t ht => by omega, fun t ht => by omega⟩
  · intro m i s hi hI ih
    show Ok (fX8_find_b7 N F cu se c _ _ (i : Int) s.1 s.2.1 s.2.2) _
    unfold fX8_find_b7
    obtain ⟨h1, h2, h3⟩ := hI
    have hle := ctB_le (begB cu (se 4) c) i
    have e1 : ((i : Int)).toNat = i := Int.toNat_natCast i
    refine Ok.ltp (by omega) (Ok.bind (isFirst_ok (by omega) (by omega) hc (hcu i (by omega)) hbo) (fun r hr => ?_))
    rcases hr with ⟨hr, hp⟩ | ⟨hr, hp⟩
    · have hb := begB_t.mpr hp
      refine Ok.eqn (by omega) (Ok.gd (by omega) (Ok.gd (by omega) ?_))
      rw [e1, h1, Int.toNat_natCast]
      refine ih ((ctB (begB cu (se 4) c) i : Int) + 1, uZ s.2.1 i ((ctB (begB cu (se 4) c) i : Int) + 1 - 1), uZ s.2.2 (ctB (begB cu (se 4) c) i) (i : Int)) ⟨by rw [ctB_succ, if_pos hb]; rfl, fun t ht => ?_, fun t ht hbt => ?_⟩
      · by_cases q : t = i
        · show uZ _ i _ t = _
          rw [q, uZ_at, ctB_succ, if_pos hb]; rfl
        · show uZ _ i _ t = _
          rw [uZ_ne q]; exact h2 t (by omega)
      · show uZ _ _ _ _ = _
        by_cases q : t = i
        · rw [q, uZ_at]
        · have hm := ctB_mono (begB cu (se 4) c) (show t + 1 ≤ i by omega)
          rw [ctB_succ, if_pos hbt] at hm
          rw [uZ_ne (by omega)]; exact h3 t (by omega) hbt
    · have hb := begB_f.mpr hp
      refine Ok.eqp hr (Ok.gd (by omega) ?_)
      rw [e1]
      refine ih (s.1, uZ s.2.1 i (s.1 - 1), s.2.2) ⟨by rw [ctB_succ, hb]; exact h1, fun t ht => ?_, fun t ht hbt => ?_⟩
      · show uZ _ i _ t = _
        by_cases q : t = i
        · rw [q, uZ_at, ctB_succ, hb, h1]; rfl
        · rw [uZ_ne q]; exact h2 t (by omega)
      · by_cases q : t = i
        · rw [q, hb] at hbt; cases hbt
        · exact h3 t (by omega) hbt
  · intro m s hI
    show Ok (fX8_find_b7 N F cu se c _ _ (F : Int) s.1 s.2.1 s.2.2) _
    unfold fX8_find_b7
    obtain ⟨h1, h2, h3⟩ := hI
    have hle := ctB_le (begB cu (se 4) c) F
    refine Ok.ltn (by omega) ?_
    unfold fX8_find_j62
    refine Ok.gd (by omega) (Ok.ret ⟨h1, h2, fun t ht hbt => ?_, ?_⟩)
    · show uZ _ _ _ _ = _
      have hm := ctB_mono (begB cu (se 4) c) (show t + 1 ≤ F by omega)
      rw [ctB_succ, if_pos hbt] at hm
      rw [h1, Int.toNat_natCast, uZ_ne (by omega)]; exact h3 t ht hbt
    · show uZ _ _ _ _ = _
      rw [h1, Int.toNat_natCast, uZ_at]
/-- the beginning of a frame's scene: the last one up to it -/
theorem start_ex {b : Nat → Bool} (h0 : b 0 = true) : ∀ t : Nat, ∃ u, u ≤ t ∧ b u = true ∧ (∀ w, u < w → w ≤ t → b w = false) ∧ ctB b u + 1 = ctB b (t + 1)
  | 0 => ⟨0, Nat.le_refl 0, h0, fun w h1 h2 => by omega, by rw [ctB_succ, if_pos h0]⟩
  | t + 1 => by
    by_cases q : b (t + 1) = true
    · exact ⟨t + 1, Nat.le_refl _, q, fun w h1 h2 => by omega, by rw [ctB_succ b (t + 1), if_pos q]⟩
    · obtain ⟨u, h1, h2, h3, h4⟩ := start_ex h0 t
      refine ⟨u, by omega, h2, fun w g1 g2 => ?_, by rw [ctB_succ b (t + 1), if_neg q]; exact h4⟩
      rcases Nat.lt_or_ge w (t + 1) with g | g
      · exact h3 w g1 (by omega)
      · rw [show w = t + 1 by omega]; exact Bool.eq_false_iff.mpr q
theorem begins_ok {N F : Nat} {b : Nat → Bool} {many : Int} {so fo : Nat → Int} {t : Nat} (ht : t < F) (hF : F ≤ 24) (h0 : b 0 = true) (hR : ScR b F many so fo) : Ok (fX8_begins N so fo t) (fun r => r = if b t then 1 else 0) := by
  unfold fX8_begins
  obtain ⟨h1, h2, h3, h4⟩ := hR
  obtain ⟨u, g1, g2, g3, g4⟩ := start_ex h0 t
  have hle := ctB_le b (t + 1)
  have e1 : ((t : Int)).toNat = t := Int.toNat_natCast t
  have e2 : so t = (ctB b u : Int) := by rw [h2 t ht]; omega
  have e3 := h3 u (by omega) g2
  rw [e1, e2, Int.toNat_natCast, e3]
  refine Ok.gd (by omega) (Ok.gd (by omega) ?_)
  refine Ok.eq (by omega) (fun q => Ok.ret ?_) (fun q => Ok.ret ?_)
  · rw [show u = t by omega] at g2; rw [if_pos g2]
  · rw [if_neg]
    intro z
    have := g3 t (by omega) (Nat.le_refl t)
    rw [this] at z; cases z
end P3
