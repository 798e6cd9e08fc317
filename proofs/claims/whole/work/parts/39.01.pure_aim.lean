/-! What each frame should have: the class's targets. -/
section P8
theorem aimAt_ok {N t f : Nat} {c tg : Nat → Int} (ht : t < 24) (hf : f < 24) : Ok (fX1_aimAt N c tg t f) (fun g => (∀ v, v < 16 → g (16 * t + v) = c (16 * f + v)) ∧ ∀ j, (j < 16 * t ∨ 16 * t + 16 ≤ j) → g j = tg j) := by
  unfold fX1_aimAt
  have e1 : ((f : Int) * 16).toNat = 16 * f := by omega
  have e2 : ((t : Int) * 16).toNat = 16 * t := by omega
  rw [e1, e2, (show ((16 : Int)).toNat = 16 from rfl)]
  refine Ok.gd (by omega) (Ok.ret ⟨fun v hv => ?_, fun j hj => ?_⟩)
  · unfold cpZ
    rw [if_pos (by omega), show 16 * t + v - 16 * t = v by omega]
  · unfold cpZ
    rw [if_neg (by omega)]
theorem addW_ok {N t u : Nat} {w : Int} {c tg : Nat → Int} (ht : t < 24) (hu : u < 24) (hN : 20 < N) : Ok (fX1_addWeighted N c tg (t * 16 : Int) (u * 16 : Int) w) (fun g => (∀ v, v < 16 → g (16 * t + v) = tg (16 * t + v) + w * c (16 * u + v)) ∧ ∀ j, (j < 16 * t ∨ 16 * t + 16 ≤ j) → g j = tg j) := by
  unfold fX1_addWeighted
  refine Ok.loop (fun m i g => fX1_addWeighted_L3 N c (t * 16 : Int) (u * 16 : Int) w (fX1_addWeighted_j42 N c (t * 16 : Int) (u * 16 : Int) w) m (i : Int) g) 16 (fun i g => (∀ v, v < 16 → g (16 * t + v) = tg (16 * t + v) + if v < i then w * c (16 * u + v) else 0) ∧ ∀ j, (j < 16 * t ∨ 16 * t + 16 ≤ j) → g j = tg j) _ ?_ ?_ N 0 tg (by omega) (by omega) ⟨fun v hv => by rw [if_neg (by omega), Int.add_zero], fun j _ => rfl⟩
  · intro m i g hi hI ih
    show Ok (fX1_addWeighted_b3 N c (t * 16 : Int) (u * 16 : Int) w _ _ (i : Int) g) _
    unfold fX1_addWeighted_b3
    have e1 : ((t : Int) * 16 + (i : Int)).toNat = 16 * t + i := by omega
    have e2 : ((u : Int) * 16 + (i : Int)).toNat = 16 * u + i := by omega
    rw [e1, e2]
    repeat (first | refine Ok.gd (by omega) ?_ | refine Ok.ltp (by omega) ?_ | refine Ok.ltn (by omega) ?_ | refine Ok.eqp (by omega) ?_ | refine Ok.eqn (by omega) ?_)
    refine ih _ ⟨fun v hv => ?_, fun j hj => ?_⟩
    · by_cases q : v = i
      · rw [q, uZ_at, hI.1 i hi, if_neg (by omega), if_pos (by omega), Int.add_zero]
      · rw [uZ_ne (by omega), hI.1 v hv]
        by_cases q2 : v < i
        · rw [if_pos q2, if_pos (by omega)]
        · rw [if_neg q2, if_neg (by omega)]
    · rw [uZ_ne (by omega)]; exact hI.2 j hj
  · intro m g hI
    show Ok (fX1_addWeighted_b3 N c (t * 16 : Int) (u * 16 : Int) w _ _ ((16 : Nat) : Int) g) _
    unfold fX1_addWeighted_b3
    exact Ok.ltn (by omega) (Ok.ret ⟨fun v hv => by rw [hI.1 v hv, if_pos hv], hI.2⟩)
/-- a row that changes in frame t alone -/
def RowOut (t : Nat) (g g0 : Nat → Int) : Prop := ∀ j, (j < 16 * t ∨ 16 * t + 16 ≤ j) → g j = g0 j
theorem aimWin_ok {N F t : Nat} {b : Nat → Bool} {many : Int} {C c so fo se sk we tg : Nat → Int} (hR : ScR b F many so fo) (h0 : b 0 = true) (hF : F ≤ 24) (ht : t < F) (hc : CR C F c) (hC : RowB C) (hr0 : 0 ≤ se 0 ∧ se 0 ≤ 3) (hw : ∀ k, k < 4 → 1 ≤ we k ∧ we k ≤ 9) (hsk : ∀ u, u < 24 → sk u = 0 ∨ sk u = 1) (hN : 40 < N) : Ok (fX1_aimByWindow N so fo se sk we c tg t) (fun g => (∀ v, v < 16 → g (16 * t + v) = tgW sk se we b C F t v) ∧ RowOut t g tg) := by
  unfold fX1_aimByWindow
  obtain ⟨r, hr⟩ : ∃ r : Nat, se 0 = (r : Int) := ⟨(se 0).toNat, by omega⟩
  have hr3 : r ≤ 3 := by omega
  have hrn : (se 0).toNat = r := by omega
  have hst := stS_spec h0 t
  have hls := lsS_spec (b := b) F ht
  have w1 : wbS b t r ≤ t := by
    unfold wbS
    by_cases q : stS b t < t - r
    · rw [if_pos q]; omega
    · rw [if_neg q]; omega
  have w2 : t ≤ wlS b F t r ∧ wlS b F t r < F := by
    unfold wlS
    by_cases q : t + r < lsS b t F
    · rw [if_pos q]; omega
    · rw [if_neg q]; omega
  have wd : wlS b F t r ≤ t + r ∧ t ≤ wbS b t r + r := by
    constructor
    · unfold wlS
      by_cases q : t + r < lsS b t F
      · rw [if_pos q]; omega
      · rw [if_neg q]; omega
    · unfold wbS
      by_cases q : stS b t < t - r
      · rw [if_pos q]; omega
      · rw [if_neg q]; omega
  refine Ok.loop (fun m i g => fX1_aimByWindow_L11 N so fo se sk we c t (fX1_aimByWindow_j34 N so fo se sk we c t) m (t * 16 : Int) 0 (i : Int) g) 16 (fun i g => (∀ v, v < i → g (16 * t + v) = 0) ∧ RowOut t g tg) _ ?_ ?_ N 0 tg (by omega) (by omega) ⟨fun v hv => by omega, fun j _ => rfl⟩
  · intro m i g hi hI ih
    show Ok (fX1_aimByWindow_b11 N so fo se sk we c t _ _ (t * 16 : Int) 0 (i : Int) g) _
    unfold fX1_aimByWindow_b11
    have e1 : ((t : Int) * 16 + (i : Int)).toNat = 16 * t + i := by omega
    rw [e1]
    repeat (first | refine Ok.gd (by omega) ?_ | refine Ok.ltp (by omega) ?_ | refine Ok.ltn (by omega) ?_ | refine Ok.eqp (by omega) ?_ | refine Ok.eqn (by omega) ?_)
    refine ih _ ⟨fun v hv => ?_, fun j hj => ?_⟩
    · by_cases q : v = i
      · rw [q, uZ_at]
      · rw [uZ_ne (by omega)]; exact hI.1 v (by omega)
    · rw [uZ_ne (by omega)]; exact hI.2 j hj
  · intro m g hI
    show Ok (fX1_aimByWindow_b11 N so fo se sk we c t _ _ (t * 16 : Int) 0 ((16 : Nat) : Int) g) _
    unfold fX1_aimByWindow_b11
    refine Ok.ltn (by omega) ?_
    unfold fX1_aimByWindow_j34
    refine Ok.bind (wStart_ok hR h0 hF ht hr hr3) (fun x hx => ?_)
    rw [hx]
    have hz : ∀ w : Nat → Int, sI (wtS sk se w b F t) (wbS b t r) = 0 := fun w => sI_zero (fun k hk => wtS_out (Or.inl (by rw [hrn]; exact hk)))
    have hzn : ∀ v, sI (wnS sk se we b C F t v) (wbS b t r) = 0 := fun v => sI_zero (fun k hk => by unfold wnS; rw [wtS_out (Or.inl (by rw [hrn]; exact hk)), Int.zero_mul])
    refine Ok.loop (fun m i (y : Int × (Nat → Int)) => fX1_aimByWindow_L42 N so fo se sk we c t (fX1_aimByWindow_j102 N so fo se sk we c t) m (t * 16 : Int) y.1 (i : Int) y.2) (wlS b F t r + 1) (fun i y => wbS b t r ≤ i ∧ y.1 = sI (wtS sk se we b F t) i ∧ (∀ v, v < 16 → y.2 (16 * t + v) = sI (wnS sk se we b C F t v) i) ∧ RowOut t y.2 tg) _ ?_ ?_ N (wbS b t r) (0, g) (by omega) (by omega) ⟨Nat.le_refl _, (hz we).symm, fun v hv => by rw [hzn v]; exact hI.1 v hv, hI.2⟩
    · intro m2 i y hi hy ih
      obtain ⟨y1, y2, y3, y4⟩ := hy
      show Ok (fX1_aimByWindow_b42 N so fo se sk we c t _ _ (t * 16 : Int) y.1 (i : Int) y.2) _
      unfold fX1_aimByWindow_b42
      refine Ok.bind (wLast_ok hR hF ht hr hr3) (fun x4 hx4 => ?_)
      rw [hx4, Int.toNat_natCast]
      refine Ok.ltn (by omega) (Ok.gd (by omega) ?_)
      have hin := wtS_in (sk := sk) (se := se) (w := we) (b := b) (F := F) (t := t) (u := i) (by rw [hrn]; exact y1) (by rw [hrn]; omega)
      have hski := hsk i (by omega)
      refine Ok.eq (by omega) (fun q => ?_) (fun q => ?_)
      · rw [if_pos q] at hin
        have eab : abZ ((i : Int) - (t : Int)) = ((if t ≤ i then i - t else t - i : Nat) : Int) := by
          rw [abZ_ab (by omega)]
          unfold ab
          by_cases q2 : t ≤ i
          · rw [if_neg (by omega), if_pos q2]; omega
          · rw [if_pos (by omega), if_neg q2]; omega
        have hlt : (if t ≤ i then i - t else t - i) < 4 := by
          by_cases q2 : t ≤ i
          · rw [if_pos q2]; omega
          · rw [if_neg q2]; omega
        rw [eab, Int.toNat_natCast, ← hin]
        refine Ok.gd (by omega) (Ok.bind (addW_ok (by omega) (by omega) (by omega)) (fun g9 h9 => ?_))
        refine ih (y.1 + wtS sk se we b F t i, g9) ⟨by omega, by rw [sI_succ, ← y2], fun v hv => ?_, fun j hj => ?_⟩
        · show g9 _ = _
          rw [h9.1 v hv, sI_succ, ← y3 v hv]
          show _ = _ + wtS sk se we b F t i * C (16 * i + v)
          rw [hc i v (by omega) hv]
        · show g9 j = _
          rw [h9.2 j hj]; exact y4 j hj
      · rw [if_neg q] at hin
        refine ih (y.1, y.2) ⟨by omega, by rw [sI_succ, hin, Int.add_zero]; exact y2, fun v hv => ?_, y4⟩
        show y.2 _ = _
        rw [sI_succ, y3 v hv]
        show _ = _ + wtS sk se we b F t i * C (16 * i + v)
        rw [hin, Int.zero_mul, Int.add_zero]
    · intro m2 y hy
      obtain ⟨y1, y2, y3, y4⟩ := hy
      have tl1 : sI (wtS sk se we b F t) F = sI (wtS sk se we b F t) (wlS b F t r + 1) := sI_tail (by omega) (fun k h1 h2 => wtS_out (Or.inr (by rw [hrn]; omega)))
      have tl2 : ∀ v, sI (wnS sk se we b C F t v) F = sI (wnS sk se we b C F t v) (wlS b F t r + 1) := fun v => sI_tail (by omega) (fun k h1 h2 => by unfold wnS; rw [wtS_out (Or.inr (by rw [hrn]; omega)), Int.zero_mul])
      rw [← tl1] at y2
      have hb1 := wt_sum_b (sk := sk) (se := se) (b := b) (F := F) (t := t) hw (by omega) hF
      show Ok (fX1_aimByWindow_b42 N so fo se sk we c t _ _ (t * 16 : Int) y.1 ((wlS b F t r + 1 : Nat) : Int) y.2) _
      unfold fX1_aimByWindow_b42
      refine Ok.bind (wLast_ok hR hF ht hr hr3) (fun x4 hx4 => ?_)
      rw [hx4]
      refine Ok.ltp (by omega) ?_
      unfold fX1_aimByWindow_j102
      rw [y2]
      refine Ok.eq (by omega) (fun q => ?_) (fun q => ?_)
      · refine Ok.bind (aimAt_ok (by omega) (by omega)) (fun g9 h9 => Ok.ret ⟨fun v hv => ?_, fun j hj => ?_⟩)
        · rw [h9.1 v hv, hc t v ht hv]; unfold tgW; rw [if_pos q]
        · rw [h9.2 j hj]; exact y4 j hj
      · have hb3 : ∀ v, v < 16 → 0 ≤ y.2 (16 * t + v) ∧ y.2 (16 * t + v) ≤ 13824 := fun v hv => by
          rw [y3 v hv, ← tl2 v]; exact wn_sum_b hw (by omega) hC hv hF
        refine Ok.loop (fun m i g => fX1_aimByWindow_L117 N so fo se sk we c t (fX1_aimByWindow_j144 N so fo se sk we c t) m (t * 16 : Int) (sI (wtS sk se we b F t) F) (i : Int) g) 16 (fun i g => (∀ v, v < 16 → g (16 * t + v) = if v < i then y.2 (16 * t + v) / sI (wtS sk se we b F t) F else y.2 (16 * t + v)) ∧ RowOut t g tg) _ ?_ ?_ N 0 y.2 (by omega) (by omega) ⟨fun v hv => by rw [if_neg (by omega)], y4⟩
        · intro m3 i g3 hi h3 ih
          show Ok (fX1_aimByWindow_b117 N so fo se sk we c t _ _ (t * 16 : Int) (sI (wtS sk se we b F t) F) (i : Int) g3) _
          unfold fX1_aimByWindow_b117
          have e1 : ((t : Int) * 16 + (i : Int)).toNat = 16 * t + i := by omega
          have hbi := hb3 i hi
          have e3 : g3 (16 * t + i) = y.2 (16 * t + i) := by rw [h3.1 i hi, if_neg (by omega)]
          have e4 : dZ (y.2 (16 * t + i)) (sI (wtS sk se we b F t) F) = y.2 (16 * t + i) / sI (wtS sk se we b F t) F := dZ_div (by omega) (by omega)
          rw [e1, e3, e4]
          refine Ok.ltp (by omega) (Ok.gd (by omega) (Ok.gd (fun z => q ((iZ_eq (by omega) (by omega) (by omega) (by omega)).mp z)) (Ok.gd (by omega) ?_)))
          refine ih _ ⟨fun v hv => ?_, fun j hj => ?_⟩
          · by_cases q3 : v = i
            · rw [q3, uZ_at, if_pos (by omega)]
            · rw [uZ_ne (by omega), h3.1 v hv]
              by_cases q2 : v < i
              · rw [if_pos q2, if_pos (by omega)]
              · rw [if_neg q2, if_neg (by omega)]
          · rw [uZ_ne (by omega)]; exact h3.2 j hj
        · intro m3 g3 h3
          show Ok (fX1_aimByWindow_b117 N so fo se sk we c t _ _ (t * 16 : Int) (sI (wtS sk se we b F t) F) ((16 : Nat) : Int) g3) _
          unfold fX1_aimByWindow_b117
          refine Ok.ltn (by omega) (Ok.ret ⟨fun v hv => ?_, h3.2⟩)
          rw [h3.1 v hv, if_pos hv, y3 v hv, ← tl2 v]; unfold tgW; rw [if_neg q]
theorem aimKey_ok {N F a : Nat} {b : Nat → Bool} {many : Int} {C c so fo su tg : Nat → Int} (hR : ScR b F many so fo) (h0 : b 0 = true) (hF : F ≤ 24) (ha : a < F) (hb : b a = true) (hc : CR C F c) (hC : RowB C) (hB : RowB c) (hN : 40 < N) : Ok (fX1_aimByKey N fo c su tg (ctB b a : Int)) (fun r => (∀ t v, a ≤ t → t ≤ lsS b a F → v < 16 → r.2 (16 * t + v) = C (16 * kyS b C F a + v)) ∧ ∀ t v, t < 24 → v < 16 → (t < a ∨ lsS b a F < t) → r.2 (16 * t + v) = tg (16 * t + v)) := by
  unfold fX1_aimByKey
  have hl := lsS_spec (b := b) F ha
  have hle := ctB_le b a
  have e1 := ctB_succ b a
  rw [if_pos hb] at e1
  have f2 := hR.last ha
  rw [e1] at f2
  have f1 := hR.2.2.1 a ha hb
  have hky := kyS_b h0 (c := C) ha
  have e3 : ((ctB b a : Int) + 1).toNat = ctB b a + 1 := by omega
  refine Ok.bind (keyS_ok hc hC hB hF hR ha hb hN) (fun r hr => Ok.gd (by omega) ?_)
  rw [hr, Int.toNat_natCast, f1]
  refine Ok.loop (fun m i g => fX1_aimByKey_L23 N fo c (ctB b a : Int) (fX1_aimByKey_j50 N fo c (ctB b a : Int)) m (kyS b C F a : Int) (i : Int) r.2 g) (lsS b a F + 1) (fun i g => a ≤ i ∧ (∀ t v, a ≤ t → t < i → v < 16 → g (16 * t + v) = C (16 * kyS b C F a + v)) ∧ ∀ t v, t < 24 → v < 16 → (t < a ∨ i ≤ t) → g (16 * t + v) = tg (16 * t + v)) _ ?_ ?_ N a tg (by omega) (by omega) ⟨Nat.le_refl a, fun t v h1 h2 => by omega, fun t v _ _ _ => rfl⟩
  · intro m i g hi hI ih
    obtain ⟨i1, i2, i3⟩ := hI
    show Ok (fX1_aimByKey_b23 N fo c (ctB b a : Int) _ _ (kyS b C F a : Int) (i : Int) r.2 g) _
    unfold fX1_aimByKey_b23
    rw [e3, f2]
    refine Ok.gd (by omega) (Ok.ltp (by omega) (Ok.bind (aimAt_ok (by omega) (by omega)) (fun g5 h5 => ?_)))
    refine ih g5 ⟨by omega, fun t v h1 h2 hv => ?_, fun t v ht hv h1 => ?_⟩
    · by_cases q : t = i
      · rw [q, h5.1 v hv, hc _ v hky hv]
      · rw [h5.2 _ (by omega)]; exact i2 t v h1 (by omega) hv
    · rw [h5.2 _ (by omega)]; exact i3 t v ht hv (by omega)
  · intro m g hI
    obtain ⟨i1, i2, i3⟩ := hI
    show Ok (fX1_aimByKey_b23 N fo c (ctB b a : Int) _ _ (kyS b C F a : Int) ((lsS b a F + 1 : Nat) : Int) r.2 g) _
    unfold fX1_aimByKey_b23
    rw [e3, f2]
    refine Ok.gd (by omega) (Ok.ltn (by omega) (Ok.ret ⟨fun t v h1 h2 hv => i2 t v h1 (by omega) hv, fun t v ht hv h1 => i3 t v ht hv (by omega)⟩))
theorem aim_ok {N F : Nat} {b : Nat → Bool} {many : Int} {C c so fo se sk we su tg : Nat → Int} (hR : ScR b F many so fo) (h0 : b 0 = true) (hF : F ≤ 24) (hc : CR C F c) (hC : RowB C) (hB : RowB c) (hr0 : 0 ≤ se 0 ∧ se 0 ≤ 3) (hm : 0 ≤ se 5 ∧ se 5 ≤ 2) (hw : ∀ k, k < 4 → 1 ≤ we k ∧ we k ≤ 9) (hsk : ∀ u, u < 24 → sk u = 0 ∨ sk u = 1) (hN : 40 < N) : Ok (fX1_aim N F se many fo c so sk we su tg) (fun r => ∀ t v, t < F → v < 16 → r.2 (16 * t + v) = tgS sk se we b C F t v) := by
  unfold fX1_aim
  rw [(show ((5 : Int)).toNat = 5 from rfl)]
  refine Ok.gd (by omega) (Ok.eq (by omega) (fun q => ?_) (fun q => ?_))
  · have hle := ctB_le b F
    refine Ok.loop (fun m i (x : (Nat → Int) × (Nat → Int)) => fX1_aim_L12 N F se many fo c so sk we (fX1_aim_j34 N F se many fo c so sk we) m (i : Int) x.1 x.2) (ctB b F) (fun i x => ∀ t v, t < F → ctB b (t + 1) ≤ i → v < 16 → x.2 (16 * t + v) = C (16 * kyS b C F t + v)) _ ?_ ?_ N 0 (su, tg) (by omega) (by omega) (fun t v ht h1 => by have := stS_spec h0 t; omega)
    · intro m i x hi hI ih
      show Ok (fX1_aim_b12 N F se many fo c so sk we _ _ (i : Int) x.1 x.2) _
      unfold fX1_aim_b12
      obtain ⟨a, a1, a2, a3⟩ := scene_ex (b := b) F i hi
      have hs := stS_self a2
      subst a3
      refine Ok.ltp (by rw [hR.1]; omega) ?_
      refine Ok.bind (aimKey_ok hR h0 hF a1 a2 hc hC hB hN) (fun r6 h6 => ?_)
      refine ih (r6.1, r6.2) (fun t v ht h1 hv => ?_)
      show r6.2 _ = _
      have ea := ctB_succ b a
      rw [if_pos a2] at ea
      by_cases q2 : ctB b (t + 1) = ctB b (a + 1)
      · have hbt := (same_iff h0 a1 ht).mp q2
        rw [hs] at hbt
        obtain ⟨z1, z2⟩ := same_st h0 a1 ht q2
        rw [h6.1 t v hbt.1 hbt.2 hv]
        unfold kyS
        rw [z1, z2]
      · have hbt : ¬ (stS b a ≤ t ∧ t ≤ lsS b a F) := fun z => q2 ((same_iff h0 a1 ht).mpr z)
        rw [hs] at hbt
        rw [h6.2 t v (by omega) hv (by omega)]
        exact hI t v ht (by omega) hv
    · intro m x hI
      show Ok (fX1_aim_b12 N F se many fo c so sk we _ _ ((ctB b F : Nat) : Int) x.1 x.2) _
      unfold fX1_aim_b12
      refine Ok.ltn (by rw [hR.1]; omega) (Ok.ret (fun t v ht hv => ?_))
      unfold tgS
      rw [if_pos q]
      exact hI t v ht (ctB_mono b (by omega)) hv
  · refine Ok.loop (fun m i g => fX1_aim_L37 N F se many fo c so sk we (fX1_aim_j57 N F se many fo c so sk we) m (i : Int) su g) F (fun i g => ∀ t v, t < i → v < 16 → g (16 * t + v) = tgW sk se we b C F t v) _ ?_ ?_ N 0 tg (by omega) (by omega) (fun t v ht => by omega)
    · intro m i g hi hI ih
      show Ok (fX1_aim_b37 N F se many fo c so sk we _ _ (i : Int) su g) _
      unfold fX1_aim_b37
      refine Ok.ltp (by omega) (Ok.bind (aimWin_ok hR h0 hF hi hc hC hr0 hw hsk hN) (fun r4 h4 => ?_))
      refine ih r4 (fun t v ht hv => ?_)
      by_cases q2 : t = i
      · rw [q2]; exact h4.1 v hv
      · rw [h4.2 _ (by omega)]; exact hI t v (by omega) hv
    · intro m g hI
      show Ok (fX1_aim_b37 N F se many fo c so sk we _ _ (F : Int) su g) _
      unfold fX1_aim_b37
      refine Ok.ltn (by omega) (Ok.ret (fun t v ht hv => ?_))
      unfold tgS
      rw [if_neg q]
      exact hI t v ht hv
end P8
