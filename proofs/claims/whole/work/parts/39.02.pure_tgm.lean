/-! What a frame should have: the reference. -/
section P9
theorem ab_dist (u t : Nat) : ab ((u : Int) - (t : Int)) = ((if t ≤ u then u - t else t - u : Nat) : Int) := by
  unfold ab
  by_cases q2 : t ≤ u
  · rw [if_neg (by omega), if_pos q2]; omega
  · rw [if_pos (by omega), if_neg q2]; omega
theorem cumAt_ok {N F t v : Nat} {C c : Nat → Int} (hc : CR C F c) (hF : F ≤ 24) (ht : t < F) (hv : v < 16) : Ok (fX12_cumAt N c t v) (fun r => r = C (16 * t + v)) := by
  unfold fX12_cumAt
  have e1 : (16 * (t : Int) + (v : Int)).toNat = 16 * t + v := by omega
  rw [e1]
  exact Ok.ltn (by omega) (Ok.gd (by omega) (Ok.ret (hc t v ht hv)))
theorem isFrame_ok {N F : Nat} {s : Nat → Int} {x : Int} (s2 : s 2 = (F : Int)) (hF : F ≤ 24) (hx : -2147483648 ≤ x ∧ x < 2147483648) : Ok (fX12_isFrame N s x) (fun r => (r = 1 ∧ 0 ≤ x ∧ x < F) ∨ (r = 0 ∧ ¬ (0 ≤ x ∧ x < F))) := by
  unfold fX12_isFrame
  rw [(show ((2 : Int)).toNat = 2 from rfl), s2, isIn_eq (by omega)]
  refine Ok.gd (by omega) ?_
  show Ok (gd _ _) _
  by_cases q : 0 ≤ x ∧ x ≤ (F : Int) - 1
  · rw [if_pos q]; exact Ok.gd (by omega) (Ok.ret (Or.inl ⟨rfl, by omega⟩))
  · rw [if_neg q]; exact Ok.gd (by omega) (Ok.ret (Or.inr ⟨rfl, by omega⟩))
theorem isSkipped_ok {N t : Nat} {s sk : Nat → Int} (h : BitsR (s 14) sk) (ht : t < 24) (hsk : sk t = 0 ∨ sk t = 1) : Ok (fX12_isSkipped N s t) (fun r => r = sk t) := by
  unfold fX12_isSkipped
  rw [(show ((14 : Int)).toNat = 14 from rfl), bits_ok h ht]
  refine Ok.gd (by omega) (Ok.eq (by omega) (fun q => Ok.ret (by omega)) (fun q => Ok.ret (by omega)))
theorem sI_scale (f : Nat → Int) (c : Int) : ∀ n, sI (fun k => c * f k) n = c * sI f n
  | 0 => by show (0 : Int) = c * 0; omega
  | n + 1 => by rw [sI_succ, sI_succ, sI_scale f c n, Int.mul_add]
theorem wt_rel {sk se we : Nat → Int} {b : Nat → Bool} {F t u : Nat} (hw : ∀ k, k < 4 → 1 ≤ we k ∧ we k ≤ 9) (hr : se 0 ≤ 3) : wtS sk se (fun _ => 1) b F t u ≤ wtS sk se we b F t u ∧ wtS sk se we b F t u ≤ 9 * wtS sk se (fun _ => 1) b F t u ∧ 0 ≤ wtS sk se (fun _ => 1) b F t u ∧ wtS sk se (fun _ => 1) b F t u ≤ 1 := by
  unfold wtS
  by_cases q : stS b t ≤ u ∧ u ≤ lsS b t F ∧ t ≤ u + (se 0).toNat ∧ u ≤ t + (se 0).toNat ∧ sk u = 0
  · rw [if_pos q, if_pos q]
    by_cases q2 : t ≤ u
    · rw [if_pos q2]; have := hw (u - t) (by omega); dsimp only; omega
    · rw [if_neg q2]; have := hw (t - u) (by omega); dsimp only; omega
  · rw [if_neg q, if_neg q]; omega
theorem wc_b {sk se we : Nat → Int} {b : Nat → Bool} {F t : Nat} (hw : ∀ k, k < 4 → 1 ≤ we k ∧ we k ≤ 9) (hr : se 0 ≤ 3) {n : Nat} (hn : n ≤ 24) : 0 ≤ sI (wtS sk se (fun _ => 1) b F t) n ∧ sI (wtS sk se (fun _ => 1) b F t) n ≤ 24 ∧ sI (wtS sk se (fun _ => 1) b F t) n ≤ sI (wtS sk se we b F t) n ∧ sI (wtS sk se we b F t) n ≤ 9 * sI (wtS sk se (fun _ => 1) b F t) n := by
  have h1 := sI_bound (f := wtS sk se (fun _ => 1) b F t) (c := 1) (n := n) (fun k _ => (wt_rel hw hr).2.2)
  have h2 := sI_le (f := wtS sk se (fun _ => 1) b F t) (g := wtS sk se we b F t) (n := n) (fun k _ => (wt_rel hw hr).1)
  have h3 := sI_le (f := wtS sk se we b F t) (g := fun k => 9 * wtS sk se (fun _ => 1) b F t k) (n := n) (fun k _ => (wt_rel hw hr).2.1)
  rw [sI_scale] at h3
  exact ⟨h1.1, by omega, h2, h3⟩
theorem laysT_add {N F t u : Nat} {C s be c : Nat → Int} {kk : Int → Int → Int → (Nat → Int) → Option (Int × (Nat → Int))} {P : Int × (Nat → Int) → Prop} {i2 w wm : Int} (hc : CR C F c) (hF : F ≤ 24) (hu : u < F) (hN : 20 < N) (g0 : Nat → Int)
    (hk : ∀ g : Nat → Int, (∀ v, v < 16 → g v = g0 v + w * C (16 * u + v)) → Ok (kk i2 u wm g) P) : Ok (fX12_laysTarget_L114 N s be c t kk N i2 u w 0 wm g0) P := by
  refine Ok.loop (fun m i g => fX12_laysTarget_L114 N s be c t kk m i2 u w (i : Int) wm g) 16 (fun i g => ∀ v, v < 16 → g v = g0 v + if v < i then w * C (16 * u + v) else 0) _ ?_ ?_ N 0 g0 (by omega) (by omega) (fun v hv => by rw [if_neg (by omega), Int.add_zero])
  · intro m i g hi hI ih
    show Ok (fX12_laysTarget_b114 N s be c t _ _ i2 (u : Int) w (i : Int) wm g) _
    unfold fX12_laysTarget_b114
    rw [Int.toNat_natCast]
    refine Ok.ltp (by omega) (Ok.gd (by omega) (Ok.bind (cumAt_ok hc hF hu hi) (fun r hr => Ok.gd (by omega) ?_)))
    refine ih _ (fun v hv => ?_)
    by_cases q : v = i
    · rw [q, uZ_at, hI i hi, if_neg (by omega), if_pos (by omega), hr, Int.add_zero]
    · rw [uZ_ne q, hI v hv]
      by_cases q2 : v < i
      · rw [if_pos q2, if_pos (by omega)]
      · rw [if_neg q2, if_neg (by omega)]
  · intro m g hI
    show Ok (fX12_laysTarget_b114 N s be c t _ _ i2 (u : Int) w ((16 : Nat) : Int) wm g) _
    unfold fX12_laysTarget_b114
    exact Ok.ltn (by omega) (hk g (fun v hv => by rw [hI v hv, if_pos hv]))
/-- how many frames are in the window of t -/
noncomputable def wcS (sk se : Nat → Int) (b : Nat → Bool) (F t : Nat) : Int := sI (wtS sk se (fun _ => 1) b F t) F
noncomputable def wiS (sk se : Nat → Int) (b : Nat → Bool) (F t : Nat) : Int := if wcS sk se b F t = 0 then 1 else wcS sk se b F t
theorem laysT_win {N t r : Nat} {d cu sk se we : Nat → Int} {W H F : Nat} {b : Nat → Bool} {s be C c : Nat → Int} {kk : Int → Int → (Nat → Int) → Option (Int × (Nat → Int))} {P : Int × (Nat → Int) → Prop} (hs : SR s d cu sk se we W H F) (hv : FV d cu sk se we W H F) (hb : BeR b F be) (hc : CR C F c) (h0 : b 0 = true) (ht : t < F) (hr : se 0 = (r : Int)) (hr3 : r ≤ 3) (hN : 40 < N) (g0 : Nat → Int) (hz : ∀ v, v < 16 → g0 v = 0)
    (hk : ∀ g : Nat → Int, (∀ v, v < 16 → g v = sI (wnS sk se we b C F t v) F) → Ok (kk (sI (wtS sk se we b F t) F) (wcS sk se b F t) g) P) : Ok (fX12_laysTarget_L37 N s be c t kk N 0 ((t : Int) - (r : Int)) 0 g0) P := by
  have hF := hv.2.2.1
  have hsk := hv.2.2.2.2.2.1
  have hrn : (se 0).toNat = r := by omega
  have s2 : s 2 = (F : Int) := hs.2.2.1
  have s3 : s 3 = (r : Int) := by rw [← hr]; exact hs.2.2.2.1 0 (by omega)
  have sw : ∀ k, k < 4 → s (9 + k) = we k := hs.2.2.2.2.1
  have lowz : ∀ (w : Nat → Int) (u : Nat), u < t - r → wtS sk se w b F t u = 0 := fun w u hu => by
    unfold wtS
    rw [if_neg]
    rintro ⟨h1, h2, h3, h4, h5⟩
    rw [hrn] at h3; omega
  have e0 : (t : Int) - (r : Int) = (t : Int) - (r : Int) + ((0 : Nat) : Int) := by omega
  rw [e0]
  refine Ok.loop (fun m j (y : Int × Int × (Nat → Int)) => fX12_laysTarget_L37 N s be c t kk m y.1 ((t : Int) - (r : Int) + (j : Int)) y.2.1 y.2.2) (2 * r + 1) (fun j y => y.1 = sI (wtS sk se we b F t) (min (t + j - r) F) ∧ y.2.1 = sI (wtS sk se (fun _ => 1) b F t) (min (t + j - r) F) ∧ ∀ v, v < 16 → y.2.2 v = sI (wnS sk se we b C F t v) (min (t + j - r) F)) _ ?_ ?_ N 0 (0, 0, g0) (by omega) (by omega) ⟨?_, ?_, fun v hv2 => ?_⟩
  · intro m j y hj hI ih
    obtain ⟨i1, i2, i3⟩ := hI
    show Ok (fX12_laysTarget_b37 N s be c t _ _ y.1 ((t : Int) - (r : Int) + (j : Int)) y.2.1 y.2.2) _
    unfold fX12_laysTarget_b37
    have e2 : (t : Int) - (r : Int) + (j : Int) + 1 = (t : Int) - (r : Int) + ((j + 1 : Nat) : Int) := by omega
    rw [(show ((3 : Int)).toNat = 3 from rfl), s3]
    unfold fX12_laysTarget_j147
    rw [e2]
    refine Ok.gd (by omega) (Ok.ltn (by omega) (Ok.bind (isFrame_ok s2 hF (by omega)) (fun r6 h6 => ?_)))
    rcases h6 with ⟨h6, h6a, h6b⟩ | ⟨h6, h6a⟩
    · obtain ⟨u, hu⟩ : ∃ u : Nat, (t : Int) - (r : Int) + (j : Int) = (u : Int) := ⟨t + j - r, by omega⟩
      have eu : t + j - r = u := by omega
      have eu1 : t + (j + 1) - r = u + 1 := by omega
      have huF : u < F := by omega
      rw [show min (t + j - r) F = u by omega] at i1 i2 i3
      rw [hu]
      refine Ok.eqn (by omega) (Ok.bind (isSkipped_ok hs.2.2.2.2.2.2.1 (by omega) (hsk u (by omega))) (fun r8 h8 => ?_))
      have hsku := hsk u (by omega)
      have stay : (∀ w : Nat → Int, wtS sk se w b F t u = 0) → Ok (fX12_laysTarget_L37 N s be c t kk m y.1 ((t : Int) - (r : Int) + ((j + 1 : Nat) : Int)) y.2.1 y.2.2) P := fun hz2 => by
        refine ih (y.1, y.2.1, y.2.2) ⟨?_, ?_, fun v hv2 => ?_⟩
        · rw [show min (t + (j + 1) - r) F = u + 1 by omega, sI_succ, hz2 we, Int.add_zero]; exact i1
        · rw [show min (t + (j + 1) - r) F = u + 1 by omega, sI_succ, hz2, Int.add_zero]; exact i2
        · rw [show min (t + (j + 1) - r) F = u + 1 by omega, sI_succ, show wnS sk se we b C F t v u = wtS sk se we b F t u * C (16 * u + v) from rfl, hz2 we, Int.zero_mul, Int.add_zero]; exact i3 v hv2
      rw [h8]
      refine Ok.eq (by omega) (fun q => ?_) (fun q => ?_)
      · refine Ok.bind (sceneOf_ok hb hF huF hN) (fun r10 h10 => Ok.bind (sceneOf_ok hb hF ht hN) (fun r11 h11 => ?_))
        have c1 := ctB_le b (u + 1)
        have c2 := ctB_le b (t + 1)
        rw [h10, h11]
        refine Ok.eq (by omega) (fun q2 => ?_) (fun q2 => ?_)
        · have hsm := (same_iff h0 ht huF).mp (by omega)
          refine Ok.bind (off_ok (by omega)) (fun r13 h13 => ?_)
          rw [ab_dist] at h13
          have hlt : (if t ≤ u then u - t else t - u) < 4 := by
            by_cases q3 : t ≤ u
            · rw [if_pos q3]; omega
            · rw [if_neg q3]; omega
          have e9 : (9 + r13).toNat = 9 + (if t ≤ u then u - t else t - u) := by rw [h13]; omega
          have hwt : ∀ w : Nat → Int, wtS sk se w b F t u = w (if t ≤ u then u - t else t - u) := fun w => by
            unfold wtS
            rw [if_pos ⟨hsm.1, hsm.2, by omega, by omega, q⟩]
          rw [e9, sw _ hlt, ← hwt we]
          refine Ok.gd (by omega) ?_
          refine laysT_add hc hF huF (by omega) y.2.2 (fun g hg => ?_)
          rw [← hu, e2]
          refine ih (y.1 + wtS sk se we b F t u, y.2.1 + 1, g) ⟨?_, ?_, fun v hv2 => ?_⟩
          · rw [show min (t + (j + 1) - r) F = u + 1 by omega, sI_succ, ← i1]
          · rw [show min (t + (j + 1) - r) F = u + 1 by omega, sI_succ, ← i2, hwt (fun _ => 1)]
          · show g v = _
            rw [show min (t + (j + 1) - r) F = u + 1 by omega, sI_succ, ← i3 v hv2, hg v hv2]
            rfl
        · refine stay (fun w => ?_)
          unfold wtS
          rw [if_neg]
          rintro ⟨z1, z2, z3, z4, z5⟩
          have := (same_iff h0 ht huF).mpr ⟨z1, z2⟩
          omega
      · refine stay (fun w => ?_)
        unfold wtS
        rw [if_neg]
        rintro ⟨z1, z2, z3, z4, z5⟩
        exact q z5
    · refine Ok.eqp h6 ?_
      have en : min (t + (j + 1) - r) F = min (t + j - r) F := by omega
      refine ih (y.1, y.2.1, y.2.2) ⟨by rw [en]; exact i1, by rw [en]; exact i2, fun v hv2 => by rw [en]; exact i3 v hv2⟩
  · intro m y hI
    obtain ⟨i1, i2, i3⟩ := hI
    show Ok (fX12_laysTarget_b37 N s be c t _ _ y.1 ((t : Int) - (r : Int) + ((2 * r + 1 : Nat) : Int)) y.2.1 y.2.2) _
    unfold fX12_laysTarget_b37
    rw [(show ((3 : Int)).toNat = 3 from rfl), s3]
    refine Ok.gd (by omega) (Ok.ltp (by omega) ?_)
    have tail : ∀ w : Nat → Int, sI (wtS sk se w b F t) F = sI (wtS sk se w b F t) (min (t + (2 * r + 1) - r) F) := fun w => sI_tail (by omega) (fun k h1 h2 => by
      unfold wtS
      rw [if_neg]
      rintro ⟨z1, z2, z3, z4, z5⟩
      omega)
    have tail2 : ∀ v, sI (wnS sk se we b C F t v) F = sI (wnS sk se we b C F t v) (min (t + (2 * r + 1) - r) F) := fun v => sI_tail (by omega) (fun k h1 h2 => by
      unfold wnS wtS
      rw [if_neg, Int.zero_mul]
      rintro ⟨z1, z2, z3, z4, z5⟩
      omega)
    have h9 := hk y.2.2 (fun v hv2 => by rw [tail2 v]; exact i3 v hv2)
    unfold wcS at h9
    rw [tail we, tail, ← i1, ← i2] at h9
    exact h9
  · show (0 : Int) = _
    rw [sI_zero (fun k hk2 => lowz we k (by omega))]
  · show (0 : Int) = _
    rw [sI_zero (fun k hk2 => lowz _ k (by omega))]
  · show g0 v = _
    rw [hz v hv2, sI_zero (fun k hk2 => by unfold wnS; rw [lowz we k (by omega), Int.zero_mul])]
theorem laysTarget_ok {N t : Nat} {d cu sk se we : Nat → Int} {W H F : Nat} {b : Nat → Bool} {s be C c tg : Nat → Int} {wm : Int} (hs : SR s d cu sk se we W H F) (hv : FV d cu sk se we W H F) (hb : BeR b F be) (hc : CR C F c) (hC : RowB C) (h0 : b 0 = true) (ht : t < F) (hN : 40 < N) : Ok (fX12_laysTarget N s be c wm tg t) (fun r => r.1 = wiS sk se b F t ∧ ∀ v, v < 16 → r.2 v = tgS sk se we b C F t v) := by
  have hF := hv.2.2.1
  have hse := hv.2.2.2.2.2.2.2.1
  have hw := hv.2.2.2.2.2.2.2.2.2
  have hr0 := hse 0 (by omega)
  have hr9 : se 0 ≤ 3 := hr0.2
  have hm0 := hse 5 (by omega)
  have hm9 : se 5 ≤ 2 := hm0.2
  obtain ⟨r, hr⟩ : ∃ r : Nat, se 0 = (r : Int) := ⟨(se 0).toNat, by omega⟩
  have s2 : s 2 = (F : Int) := hs.2.2.1
  have s3 : s 3 = (r : Int) := by rw [← hr]; exact hs.2.2.2.1 0 (by omega)
  have s8 : s 8 = se 5 := hs.2.2.2.1 5 (by omega)
  have hwc := wc_b (sk := sk) (b := b) (F := F) (t := t) hw hr9 hF
  have hwt := wt_sum_b (sk := sk) (b := b) (F := F) (t := t) hw hr9 hF
  unfold fX12_laysTarget
  refine Ok.loop (fun m i g => fX12_laysTarget_L9 N s be c t (fX12_laysTarget_j28 N s be c t) m 0 (i : Int) 0 g) 16 (fun i g => ∀ v, v < i → g v = 0) _ ?_ ?_ N 0 tg (by omega) (by omega) (fun v hv2 => by omega)
  · intro m i g hi hI ih
    show Ok (fX12_laysTarget_b9 N s be c t _ _ 0 (i : Int) 0 g) _
    unfold fX12_laysTarget_b9
    rw [Int.toNat_natCast]
    repeat (first | refine Ok.gd (by omega) ?_ | refine Ok.ltp (by omega) ?_ | refine Ok.ltn (by omega) ?_ | refine Ok.eqp (by omega) ?_ | refine Ok.eqn (by omega) ?_)
    refine ih _ (fun v hv2 => ?_)
    by_cases q : v = i
    · rw [q, uZ_at]
    · rw [uZ_ne q]; exact hI v (by omega)
  · intro m g hI
    show Ok (fX12_laysTarget_b9 N s be c t _ _ 0 ((16 : Nat) : Int) 0 g) _
    unfold fX12_laysTarget_b9
    refine Ok.ltn (by omega) ?_
    unfold fX12_laysTarget_j28
    rw [(show ((3 : Int)).toNat = 3 from rfl), s3]
    refine Ok.gd (by omega) ?_
    refine laysT_win hs hv hb hc h0 ht hr (by omega) hN g hI (fun g2 hg2 => ?_)
    unfold fX12_laysTarget_j153
    refine Ok.loop (fun m i g => fX12_laysTarget_L155 N s be c t (fX12_laysTarget_j197 N s be c t) m (sI (wtS sk se we b F t) F) (i : Int) (wcS sk se b F t) g) 16 (fun i g => ∀ v, v < 16 → g v = if v < i then tgW sk se we b C F t v else sI (wnS sk se we b C F t v) F) _ ?_ ?_ N 0 g2 (by omega) (by omega) (fun v hv2 => by rw [if_neg (by omega)]; exact hg2 v hv2)
    · intro m2 i g3 hi h3 ih
      show Ok (fX12_laysTarget_b155 N s be c t _ _ (sI (wtS sk se we b F t) F) (i : Int) (wcS sk se b F t) g3) _
      unfold fX12_laysTarget_b155
      rw [Int.toNat_natCast]
      refine Ok.ltp (by omega) ?_
      have upd : ∀ x, x = tgW sk se we b C F t i → ∀ v, v < 16 → uZ g3 i x v = if v < i + 1 then tgW sk se we b C F t v else sI (wnS sk se we b C F t v) F := fun x hx v hv2 => by
        by_cases q3 : v = i
        · rw [q3, uZ_at, if_pos (by omega)]; exact hx
        · rw [uZ_ne q3, h3 v hv2]
          by_cases q2 : v < i
          · rw [if_pos q2, if_pos (by omega)]
          · rw [if_neg q2, if_neg (by omega)]
      refine Ok.eq (by unfold wcS; omega) (fun q => ?_) (fun q => ?_)
      · refine Ok.bind (cumAt_ok hc hF ht hi) (fun r24 h24 => Ok.gd (by omega) ?_)
        refine ih _ (upd _ ?_)
        unfold tgW
        unfold wcS at q
        rw [if_pos (by omega)]; exact h24
      · unfold wcS at q
        have hg3 : g3 i = sI (wnS sk se we b C F t i) F := by rw [h3 i hi, if_neg (by omega)]
        have hwn := wn_sum_b (sk := sk) (b := b) (F := F) (t := t) hw hr9 hC hi hF
        have e4 : dZ (sI (wnS sk se we b C F t i) F) (sI (wtS sk se we b F t) F) = sI (wnS sk se we b C F t i) F / sI (wtS sk se we b F t) F := dZ_div (by omega) (by omega)
        rw [hg3, e4]
        refine Ok.gd (by omega) (Ok.gd (fun z => ?_) (Ok.gd (by omega) ?_))
        · have := (iZ_eq (by omega) (by omega) (by omega) (by omega)).mp z; omega
        · refine ih _ (upd _ ?_)
          unfold tgW
          rw [if_neg (by omega)]
    · intro m2 g3 h3
      show Ok (fX12_laysTarget_b155 N s be c t _ _ (sI (wtS sk se we b F t) F) ((16 : Nat) : Int) (wcS sk se b F t) g3) _
      unfold fX12_laysTarget_b155
      refine Ok.ltn (by omega) ?_
      have h3w : ∀ v, v < 16 → g3 v = tgW sk se we b C F t v := fun v hv2 => by rw [h3 v hv2, if_pos hv2]
      have fin : ∀ w, w = wiS sk se b F t → Ok (fX12_laysTarget_j209 N s be c t w g3) (fun r => r.1 = wiS sk se b F t ∧ ∀ v, v < 16 → r.2 v = tgS sk se we b C F t v) := fun w hw9 => by
        unfold fX12_laysTarget_j209
        rw [(show ((8 : Int)).toNat = 8 from rfl), s8]
        refine Ok.gd (by omega) (Ok.eq (by omega) (fun q => ?_) (fun q => Ok.ret ⟨hw9, fun v hv2 => ?_⟩))
        · have hst := stS_spec h0 t
          refine Ok.bind (sceneOf_ok hb hF ht hN) (fun r29 h29 => ?_)
          rw [show r29 = (ctB b (stS b t) : Int) by omega]
          refine Ok.bind (keyOf_ok hb hc hC hF s2 (show stS b t < F by omega) h0 hst.2.1 hN) (fun r30 h30 => ?_)
          have hsame := same_st h0 ht (u := stS b t) (by omega) (by have := ctB_succ b (stS b t); rw [if_pos hst.2.1] at this; omega)
          have hky : kyS b C F (stS b t) = kyS b C F t := by unfold kyS; rw [hsame.1, hsame.2]
          have hkb := kyS_b h0 (c := C) ht
          rw [h30, hky]
          refine Ok.loop (fun m i g => fX12_laysTarget_L234 N s be c t (fX12_laysTarget_j261 N s be c t) m (kyS b C F t : Int) (i : Int) w g) 16 (fun i g => ∀ v, v < i → g v = C (16 * kyS b C F t + v)) _ ?_ ?_ N 0 g3 (by omega) (by omega) (fun v hv2 => by omega)
          · intro m4 i g4 hi h4 ih
            show Ok (fX12_laysTarget_b234 N s be c t _ _ (kyS b C F t : Int) (i : Int) w g4) _
            unfold fX12_laysTarget_b234
            rw [Int.toNat_natCast]
            refine Ok.ltp (by omega) (Ok.bind (cumAt_ok hc hF hkb hi) (fun r32 h32 => Ok.gd (by omega) ?_))
            refine ih _ (fun v hv2 => ?_)
            by_cases q3 : v = i
            · rw [q3, uZ_at]; exact h32
            · rw [uZ_ne q3]; exact h4 v (by omega)
          · intro m4 g4 h4
            show Ok (fX12_laysTarget_b234 N s be c t _ _ (kyS b C F t : Int) ((16 : Nat) : Int) w g4) _
            unfold fX12_laysTarget_b234
            refine Ok.ltn (by omega) (Ok.ret ⟨hw9, fun v hv2 => ?_⟩)
            unfold tgS
            rw [if_pos q]; exact h4 v hv2
        · unfold tgS
          rw [if_neg q]; exact h3w v hv2
      unfold fX12_laysTarget_j197
      refine Ok.eq (by unfold wcS; omega) (fun q => fin _ ?_) (fun q => fin _ ?_)
      · unfold wiS; rw [if_pos q]
      · unfold wiS; rw [if_neg q]
end P9
