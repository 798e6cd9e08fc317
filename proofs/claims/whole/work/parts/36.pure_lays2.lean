/-! lays(), whole. -/
section P5
def RowT (c : Nat → Int) (t : Nat) : Prop := ∀ v, v < 16 → 0 ≤ c (16 * t + v) ∧ c (16 * t + v) ≤ 64
theorem RowB.t {c : Nat → Int} (h : RowB c) {t : Nat} (ht : t < 24) : RowT c t := fun v hv => h (16 * t + v) (by omega)
theorem gapT_b {c : Nat → Int} {t u : Nat} (h1 : RowT c t) (h2 : RowT c u) : 0 ≤ gapS c t u ∧ gapS c t u ≤ 1024 := by
  have h := sI_bound (f := fun v => ab (c (16 * t + v) - c (16 * u + v))) (c := 64) (n := 16) (fun k hk => ⟨ab_nn _, ab_le (by have := h1 k hk; have := h2 k hk; omega)⟩)
  unfold gapS
  omega
theorem apartT_ok {N : Nat} {c : Nat → Int} {t u : Nat} (ht : t < 24) (hu : u < 24) (hN : 20 < N) (ht2 : RowT c t) (hu2 : RowT c u) : Ok (fX12_apartBy N c t u) (fun r => r = gapS c t u) := by
  unfold fX12_apartBy
  refine Ok.loop (fun m i s => fX12_apartBy_L5 N c t u (fX12_apartBy_j42 N c t u) m s (i : Int)) 16 (fun i s => s = sI (fun v => ab (c (16 * t + v) - c (16 * u + v))) i) _ ?_ ?_ N 0 0 (by omega) (by omega) rfl
  · intro m i s hi hI ih
    show Ok (fX12_apartBy_b5 N c t u _ _ s (i : Int)) _
    unfold fX12_apartBy_b5
    have e1 : (16 * (t : Int) + (i : Int)).toNat = 16 * t + i := by omega
    have e2 : (16 * (u : Int) + (i : Int)).toNat = 16 * u + i := by omega
    have h1 := ht2 i hi
    have h2 := hu2 i hi
    rw [e1, e2]
    refine Ok.ltp (by omega) (Ok.gd (by omega) (Ok.gd (by omega) (Ok.bind (off_ok (by omega)) (fun r hr => ?_))))
    exact ih _ (by rw [sI_succ, ← hI, hr])
  · intro m s hI
    show Ok (fX12_apartBy_b5 N c t u _ _ s ((16 : Nat) : Int)) _
    unfold fX12_apartBy_b5
    exact Ok.ltn (by omega) (Ok.ret hI)
theorem lays_zero {N : Nat} {s : Nat → Int} {f : Nat} {me be : Nat → Int} {kk : Int → (Nat → Int) → (Nat → Int) → (Nat → Int) → Option ((Nat → Int) × (Nat → Int) × (Nat → Int))} {P : (Nat → Int) × (Nat → Int) × (Nat → Int) → Prop} (hf : f < 24) (hN : 20 < N) (g0 : Nat → Int)
    (hk : ∀ g : Nat → Int, (∀ v, v < 16 → g (16 * f + v) = 0) → (∀ j, (j < 16 * f ∨ 16 * f + 16 ≤ j) → g j = g0 j) → Ok (kk f me g be) P) : Ok (fX12_lays_L21 N s kk N f 0 me g0 be) P := by
  refine Ok.loop (fun m i g => fX12_lays_L21 N s kk m f (i : Int) me g be) 16 (fun i g => (∀ v, v < i → g (16 * f + v) = 0) ∧ ∀ j, (j < 16 * f ∨ 16 * f + 16 ≤ j) → g j = g0 j) _ ?_ ?_ N 0 g0 (by omega) (by omega) ⟨fun v hv => by omega, fun j _ => rfl⟩
  · intro m i g hi hI ih
    show Ok (fX12_lays_b21 N s _ _ (f : Int) (i : Int) me g be) _
    unfold fX12_lays_b21
    have e1 : (16 * (f : Int) + (i : Int)).toNat = 16 * f + i := by omega
    rw [e1]
    refine Ok.ltp (by omega) (Ok.gd (by omega) ?_)
    refine ih _ ⟨fun v hv => ?_, fun j hj => ?_⟩
    · by_cases q : v = i
      · rw [q, uZ_at]
      · rw [uZ_ne (by omega)]; exact hI.1 v (by omega)
    · rw [uZ_ne (by omega)]; exact hI.2 j hj
  · intro m g hI
    show Ok (fX12_lays_b21 N s _ _ (f : Int) ((16 : Nat) : Int) me g be) _
    unfold fX12_lays_b21
    exact Ok.ltn (by omega) (hk g hI.1 hI.2)
theorem lays_dots {N : Nat} {s d cu sk se we : Nat → Int} {W H F f : Nat} {be : Nat → Int} {kk : Int → (Nat → Int) → (Nat → Int) → (Nat → Int) → Option ((Nat → Int) × (Nat → Int) × (Nat → Int))} {P : (Nat → Int) × (Nat → Int) × (Nat → Int) → Prop} (hs : SR s d cu sk se we W H F) (hv : FV d cu sk se we W H F) (hf : f < F) (hN : 70 < N) (me0 g0 : Nat → Int) (hm0 : me0 f = 0) (h0 : ∀ v, v < 16 → g0 (16 * f + v) = 0)
    (hk : ∀ me g : Nat → Int, me f = meanS d (W * H) f → (∀ t, t ≠ f → me t = me0 t) → (∀ v, v < 16 → g (16 * f + v) = cumS d (W * H) f v) → (∀ j, (j < 16 * f ∨ 16 * f + 16 ≤ j) → g j = g0 j) → Ok (kk f me g be) P) : ∀ rr kx, kk = fX12_lays_j110 N s rr kx → Ok (fX12_lays_L47 N s kk N f 0 me0 g0 be) P := by
  intro rr kx _
  have hF := hv.2.2.1
  have hS := size_b hv.1 hv.2.1
  have hd := hv.2.2.2.1
  refine Ok.loop (fun m i (x : (Nat → Int) × (Nat → Int)) => fX12_lays_L47 N s kk m f (i : Int) x.1 x.2 be) (W * H) (fun i x => x.1 f = sI (fun p => d (64 * f + p)) i ∧ (∀ t, t ≠ f → x.1 t = me0 t) ∧ (∀ v, v < 16 → x.2 (16 * f + v) = cumS d i f v) ∧ ∀ j, (j < 16 * f ∨ 16 * f + 16 ≤ j) → x.2 j = g0 j) _ ?_ ?_ N 0 (me0, g0) (by omega) (by omega) ⟨hm0, fun _ _ => rfl, fun v hv => h0 v hv, fun j _ => rfl⟩
  · intro m i x hi hI ih
    obtain ⟨i1, i2, i3, i4⟩ := hI
    show Ok (fX12_lays_b47 N s _ _ (f : Int) (i : Int) x.1 x.2 be) _
    unfold fX12_lays_b47
    have e1 : ((f : Int)).toNat = f := Int.toNat_natCast f
    rw [e1]
    have hdi := hd f i hf hi
    refine Ok.bind (mdots_ok hs) (fun r6 h6 => ?_)
    rw [h6]
    refine Ok.ltp (by omega) (Ok.gd (by omega) (Ok.bind (mdotAt_ok hs hv hf hi) (fun r9 h9 => Ok.gd (by omega) (Ok.bind (mdotAt_ok hs hv hf hi) (fun r11 h11 => ?_)))))
    obtain ⟨w, hw⟩ : ∃ w : Nat, d (64 * f + i) = (w : Int) := ⟨(d (64 * f + i)).toNat, by omega⟩
    rw [h11, h9, hw]
    refine lays_up (by omega) (by omega) (by omega) x.2 (fun g hg1 hg2 => ?_)
    unfold fX12_lays_j104
    refine ih (uZ x.1 f (x.1 f + (w : Int)), g) ⟨?_, fun t ht => ?_, fun v hv => ?_, fun j hj => ?_⟩
    · show uZ x.1 f _ f = _
      rw [uZ_at, sI_succ, i1, hw]
    · show uZ x.1 f _ t = _
      rw [uZ_ne ht]; exact i2 t ht
    · show g _ = _
      rw [hg1 v hv, i3 v hv]
      have e3 : cumS d (i + 1) f v = cumS d i f v + if d (64 * f + i) ≤ (v : Int) then 1 else 0 := rfl
      rw [e3, hw]
      by_cases q : w ≤ v
      · rw [if_pos q, if_pos (by omega)]
      · rw [if_neg q, if_neg (by omega)]
    · show g j = _
      rw [hg2 j hj]; exact i4 j hj
  · intro m x hI
    obtain ⟨i1, i2, i3, i4⟩ := hI
    show Ok (fX12_lays_b47 N s _ _ (f : Int) ((W * H : Nat) : Int) x.1 x.2 be) _
    unfold fX12_lays_b47
    refine Ok.bind (mdots_ok hs) (fun r6 h6 => ?_)
    rw [h6]
    exact Ok.ltn (by omega) (hk x.1 x.2 i1 i2 i3 i4)
/-- what lays() leaves -/
def LaysR (d cu : Nat → Int) (bo : Int) (S F : Nat) (me c be : Nat → Int) : Prop := (∀ t, t < F → me t = meanS d S t) ∧ (∀ t v, t < F → v < 16 → c (16 * t + v) = cumS d S t v) ∧ (∀ t, t < F → be t = if begB cu bo (CU d S) t then 1 else 0)
theorem nZ_0 : nZ 0 = 0 := by decide
theorem nZ_1 : nZ 1 = 1 := by decide
theorem lays_ok {N : Nat} {s d cu sk se we me c be : Nat → Int} {W H F : Nat} (hs : SR s d cu sk se we W H F) (hv : FV d cu sk se we W H F) (hN : 100 < N) : Ok (fX12_lays N s me c be) (fun r => LaysR d cu (se 4) (W * H) F r.1 r.2.1 r.2.2) := by
  have hF := hv.2.2.1
  have hS := size_b hv.1 hv.2.1
  have hbo := hv.2.2.2.2.2.2.2.1 4 (by omega)
  have hbo2 : se 4 ≤ 999 := hbo.2
  have hcu := hv.2.2.2.2.1
  have s7 : s 7 = se 4 := hs.2.2.2.1 4 (by omega)
  have s2 : s 2 = (F : Int) := hs.2.2.1
  unfold fX12_lays
  refine Ok.loop (fun m i (x : (Nat → Int) × (Nat → Int) × (Nat → Int)) => fX12_lays_L2 N s (fX12_lays_j173 N s) m (i : Int) x.1 x.2.1 x.2.2) F (fun i x => LaysR d cu (se 4) (W * H) i x.1 x.2.1 x.2.2) _ ?_ ?_ N 0 (me, c, be) (by omega) (by omega) ⟨fun t ht => by omega, fun t v ht => by omega, fun t ht => by omega⟩
  · intro m i x hi hI ih
    obtain ⟨i1, i2, i3⟩ := hI
    show Ok (fX12_lays_b2 N s _ _ (i : Int) x.1 x.2.1 x.2.2) _
    unfold fX12_lays_b2
    have e1 : ((i : Int)).toNat = i := Int.toNat_natCast i
    have e2 : ((2 : Int)).toNat = 2 := rfl
    rw [e1, e2, s2]
    refine Ok.gd (by omega) (Ok.ltp (by omega) (Ok.gd (by omega) ?_))
    refine lays_zero (by omega) (by omega) x.2.1 (fun g1 hg1 hg1o => ?_)
    unfold fX12_lays_j45
    refine lays_dots hs hv hi (by omega) _ g1 (uZ_at _ _ _) hg1 (fun me2 g2 hm2 hm2o hg2 hg2o => ?_) _ _ rfl
    unfold fX12_lays_j110
    have e7 : ((7 : Int)).toNat = 7 := rfl
    have e13 : ((13 : Int)).toNat = 13 := rfl
    rw [e1, e7, e13, s7, bits_ok hs.2.2.2.2.2.1 (show i < 24 by omega), nZ_0, nZ_1]
    have hrow : ∀ t v, t < i + 1 → v < 16 → g2 (16 * t + v) = cumS d (W * H) t v := fun t v ht hv2 => by
      by_cases q : t = i
      · rw [q]; exact hg2 v hv2
      · rw [hg2o _ (by omega), hg1o _ (by omega)]; exact i2 t v (by omega) hv2
    have hbc : begP cu (se 4) g2 i ↔ begP cu (se 4) (CU d (W * H)) i := begP_cong (fun u v hu hv2 => by rw [hrow u v (by omega) hv2, CU_at d _ u v hv2])
    have hstep : ∀ bv : Int, bv = (if begB cu (se 4) (CU d (W * H)) i then 1 else 0) → LaysR d cu (se 4) (W * H) (i + 1) me2 g2 (uZ x.2.2 i bv) := fun bv hbv => by
      refine ⟨fun t ht => ?_, hrow, fun t ht => ?_⟩
      · by_cases q : t = i
        · rw [q]; exact hm2
        · rw [hm2o t q, uZ_ne q]; exact i1 t (by omega)
      · by_cases q : t = i
        · rw [q, uZ_at, hbv]
        · rw [uZ_ne q]; exact i3 t (by omega)
    have hT : begP cu (se 4) g2 i → (1 : Int) = if begB cu (se 4) (CU d (W * H)) i then 1 else 0 := fun z => by rw [if_pos (begB_t.mpr (hbc.mp z))]
    have hFa : ¬ begP cu (se 4) g2 i → (0 : Int) = if begB cu (se 4) (CU d (W * H)) i then 1 else 0 := fun z => by rw [begB_f.mpr (fun y => z (hbc.mpr y))]; rfl
    have hcui := hcu i (by omega)
    refine Ok.gd (by omega) ?_
    refine Ok.eq (by omega) (fun q => Ok.gd (by omega) (ih (me2, g2, uZ x.2.2 i 1) (hstep 1 (hT (Or.inl (by omega)))))) (fun q => Ok.gd (by omega) ?_)
    refine Ok.eq (by omega) (fun q2 => Ok.gd (by omega) (ih (me2, g2, uZ x.2.2 i 1) (hstep 1 (hT (Or.inr (Or.inl q2)))))) (fun q2 => ?_)
    refine Ok.lt (by omega) (fun q3 => ?_) (fun q3 => Ok.gd (by omega) (ih (me2, g2, uZ x.2.2 i 0) (hstep 0 (hFa (fun z => ?_)))))
    · have e9 : ((i : Int) - 1) = ((i - 1 : Nat) : Int) := by omega
      rw [e9]
      have r1 : RowT g2 i := fun v hv2 => by rw [hrow i v (by omega) hv2]; have := cumS_b d (W * H) i v; omega
      have r2 : RowT g2 (i - 1) := fun v hv2 => by rw [hrow (i - 1) v (by omega) hv2]; have := cumS_b d (W * H) (i - 1) v; omega
      refine Ok.bind (apartT_ok (by omega) (by omega) (by omega) r1 r2) (fun r hr => ?_)
      rw [gapS_sym] at hr
      have hb := gapT_b r2 r1
      refine Ok.lt (by omega) (fun q4 => Ok.gd (by omega) (ih (me2, g2, uZ x.2.2 i 1) (hstep 1 (hT (Or.inr (Or.inr ⟨q3, by omega⟩)))))) (fun q4 => Ok.gd (by omega) (ih (me2, g2, uZ x.2.2 i 0) (hstep 0 (hFa (fun z => ?_)))))
      rcases z with z | z | z
      · omega
      · exact q2 z
      · omega
    · rcases z with z | z | z
      · omega
      · exact q2 z
      · omega
  · intro m x hI
    show Ok (fX12_lays_b2 N s _ _ (F : Int) x.1 x.2.1 x.2.2) _
    unfold fX12_lays_b2
    have e2 : ((2 : Int)).toNat = 2 := rfl
    rw [e2, s2]
    exact Ok.gd (by omega) (Ok.ltn (by omega) (Ok.ret hI))
end P5
