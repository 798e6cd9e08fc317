/-! The key frame in the class; windows; what a frame should have. -/
section P7
theorem gapS_self (c : Nat → Int) (t : Nat) : gapS c t t = 0 := sI_zero (fun k _ => by rw [Int.sub_self]; rfl)
theorem awS_succ (c : Nat → Int) (a n f : Nat) : awS c a (n + 1) f = awS c a n f + gapS c f (a + n) := rfl
theorem keyF_in {N F : Nat} {C c fo : Nat → Int} {k a e i : Nat} {kk : Int → Int → Int → (Nat → Int) → Option (Int × (Nat → Int))} {P : Int × (Nat → Int) → Prop} (h : CR C F c) (hC : RowB C) (hB : RowB c) (hF : F ≤ 24) (ha : a ≤ i) (hi : i < F) (hN : 40 < N) (g0 : Nat → Int) (h0 : ∀ u, a ≤ u → u < i → g0 u = awS C a (i - a) u) (hz : g0 i = 0)
    (hk : ∀ g : Nat → Int, (∀ u, a ≤ u → u < i + 1 → g u = awS C a (i + 1 - a) u) → Ok (kk a e i g) P) : Ok (fX8_keyFrame_L38 N fo c k kk N a e i a g0) P := by
  refine Ok.loop (fun m j g => fX8_keyFrame_L38 N fo c k kk m a e i (j : Int) g) i (fun j g => a ≤ j ∧ g i = awS C a (j - a) i ∧ ∀ u, a ≤ u → u < i → g u = awS C a (i - a) u + if u < j then gapS C u i else 0) _ ?_ ?_ N a g0 (by omega) (by omega) ⟨Nat.le_refl a, by rw [hz, Nat.sub_self]; rfl, fun u h1 h2 => by rw [h0 u h1 h2, if_neg (by omega), Int.add_zero]⟩
  · intro m j g hj hI ih
    obtain ⟨i1, i2, i3⟩ := hI
    show Ok (fX8_keyFrame_b38 N fo c k _ _ (a : Int) (e : Int) (i : Int) (j : Int) g) _
    unfold fX8_keyFrame_b38
    refine Ok.ltp (by omega) (Ok.bind (gapC_ok h hC hB hF (show j < F by omega) hi (by omega)) (fun r hr => ?_))
    rw [Int.toNat_natCast, Int.toNat_natCast, uZ_ne (show i ≠ j by omega)]
    repeat (first | refine Ok.gd (by omega) ?_ | refine Ok.ltp (by omega) ?_ | refine Ok.ltn (by omega) ?_ | refine Ok.eqp (by omega) ?_ | refine Ok.eqn (by omega) ?_)
    refine ih _ ⟨by omega, ?_, fun u h1 h2 => ?_⟩
    · rw [uZ_at, i2, hr.1, show j + 1 - a = j - a + 1 by omega, awS_succ, show a + (j - a) = j by omega, gapS_sym]
    · rw [uZ_ne (by omega)]
      by_cases q : u = j
      · rw [q, uZ_at, i3 j i1 hj, if_neg (by omega), if_pos (by omega), hr.1, Int.add_zero]
      · rw [uZ_ne q, i3 u h1 h2]
        by_cases q2 : u < j
        · rw [if_pos q2, if_pos (by omega)]
        · rw [if_neg q2, if_neg (by omega)]
  · intro m g hI
    obtain ⟨i1, i2, i3⟩ := hI
    show Ok (fX8_keyFrame_b38 N fo c k _ _ (a : Int) (e : Int) (i : Int) (i : Int) g) _
    unfold fX8_keyFrame_b38
    refine Ok.ltn (by omega) (hk g (fun u h1 h2 => ?_))
    rw [show i + 1 - a = i - a + 1 by omega, awS_succ, show a + (i - a) = i by omega]
    by_cases q : u = i
    · rw [q, i2, gapS_self, Int.add_zero]
    · rw [i3 u h1 (by omega), if_pos (by omega)]
theorem keyF_ok {N F : Nat} {C c fo su : Nat → Int} {k a e : Nat} (h : CR C F c) (hC : RowB C) (hB : RowB c) (hF : F ≤ 24) (hk : k < 24) (h1 : fo k = (a : Int)) (h2 : fo (k + 1) = (e : Int)) (ha : a < e) (he : e ≤ F) (hN : 40 < N) : Ok (fX8_keyFrame N fo c su k) (fun r => r.1 = (mdS (awS C a (e - a)) a (e - 1 - a) : Int)) := by
  unfold fX8_keyFrame
  have e1 : ((k : Int) + 1).toNat = k + 1 := by omega
  rw [e1, Int.toNat_natCast, h1, h2]
  refine Ok.gd (by omega) (Ok.gd (by omega) ?_)
  refine Ok.loop (fun m i g => fX8_keyFrame_L20 N fo c k (fX8_keyFrame_j91 N fo c k) m a e (i : Int) g) e (fun i g => a ≤ i ∧ ∀ u, a ≤ u → u < i → g u = awS C a (i - a) u) _ ?_ ?_ N a su (by omega) (by omega) ⟨Nat.le_refl a, fun u g1 g2 => by omega⟩
  · intro m i g hi hI ih
    obtain ⟨i1, i2⟩ := hI
    show Ok (fX8_keyFrame_b20 N fo c k _ _ (a : Int) (e : Int) (i : Int) g) _
    unfold fX8_keyFrame_b20
    rw [Int.toNat_natCast]
    refine Ok.ltp (by omega) (Ok.gd (by omega) ?_)
    refine keyF_in h hC hB hF i1 (by omega) hN _ (fun u g1 g2 => by rw [uZ_ne (by omega)]; exact i2 u g1 g2) (uZ_at _ _ _) (fun g2 hg2 => ?_)
    unfold fX8_keyFrame_j85
    exact ih g2 ⟨by omega, hg2⟩
  · intro m g hI
    obtain ⟨i1, i2⟩ := hI
    show Ok (fX8_keyFrame_b20 N fo c k _ _ (a : Int) (e : Int) (e : Int) g) _
    unfold fX8_keyFrame_b20
    refine Ok.ltn (by omega) ?_
    unfold fX8_keyFrame_j91
    refine Ok.loop (fun m i (x : Int) => fX8_keyFrame_L99 N fo c k (fX8_keyFrame_j138 N fo c k) m e x ((a + 1 + i : Nat) : Int) g) (e - 1 - a) (fun i x => x = (mdS (awS C a (e - a)) a i : Int)) _ ?_ ?_ N 0 (a : Int) (by omega) (by omega) rfl
    · intro m2 i x hi hx ih
      have hb := mdS_b (awS C a (e - a)) a i
      show Ok (fX8_keyFrame_b99 N fo c k _ _ (e : Int) x ((a + 1 + i : Nat) : Int) g) _
      unfold fX8_keyFrame_b99
      rw [hx, Int.toNat_natCast, Int.toNat_natCast, i2 (a + 1 + i) (by omega) (by omega), i2 (mdS (awS C a (e - a)) a i) (by omega) (by omega)]
      have b1 := awS_b hC (a := a) (n := e - a) (show a + 1 + i < 24 by omega) (by omega)
      have b2 := awS_b hC (a := a) (n := e - a) (show mdS (awS C a (e - a)) a i < 24 by omega) (by omega)
      refine Ok.ltp (by omega) (Ok.gd (by omega) (Ok.gd (by omega) ?_))
      refine Ok.lt (by omega) (fun q => ?_) (fun q => ?_)
      · refine ih _ ?_
        rw [mdS_succ, show a + i + 1 = a + 1 + i by omega, if_pos q]
      · refine ih _ ?_
        rw [mdS_succ, show a + i + 1 = a + 1 + i by omega, if_neg (by omega)]
    · intro m2 x hx
      show Ok (fX8_keyFrame_b99 N fo c k _ _ (e : Int) x ((a + 1 + (e - 1 - a) : Nat) : Int) g) _
      unfold fX8_keyFrame_b99
      exact Ok.ltn (by omega) (Ok.ret hx)
/-- of the scene that begins with a -/
theorem keyS_ok {N F : Nat} {C c fo su so : Nat → Int} {b : Nat → Bool} {many : Int} {a : Nat} (h : CR C F c) (hC : RowB C) (hB : RowB c) (hF : F ≤ 24) (hR : ScR b F many so fo) (ha : a < F) (hb : b a = true) (hN : 40 < N) : Ok (fX8_keyFrame N fo c su (ctB b a : Int)) (fun r => r.1 = (kyS b C F a : Int)) := by
  have hl := lsS_spec (b := b) F ha
  have hle := ctB_le b a
  have e1 := ctB_succ b a
  rw [if_pos hb] at e1
  have f2 := hR.last ha
  rw [e1] at f2
  have hs := stS_self hb
  refine (keyF_ok (e := lsS b a F + 1) h hC hB hF (show ctB b a < 24 by omega) (hR.2.2.1 a ha hb) (by rw [f2]; omega) (by omega) (by omega) hN).mono (fun r hr => ?_)
  rw [hr]; unfold kyS; rw [hs, show lsS b a F + 1 - 1 - a = lsS b a F - a by omega]
theorem start_ok {N F t : Nat} {b : Nat → Bool} {many : Int} {so fo : Nat → Int} (hR : ScR b F many so fo) (h0 : b 0 = true) (hF : F ≤ 24) (ht : t < F) : Ok (fX8_start N so fo t) (fun r => r = (stS b t : Int)) := by
  unfold fX8_start
  obtain ⟨h1, h2⟩ := hR.start h0 ht
  have hs := stS_spec h0 t
  have hle := ctB_le b (stS b t)
  rw [Int.toNat_natCast, h1, Int.toNat_natCast]
  exact Ok.gd (by omega) (Ok.gd (by omega) (Ok.ret h2))
theorem last_ok {N F t : Nat} {b : Nat → Bool} {many : Int} {so fo : Nat → Int} (hR : ScR b F many so fo) (hF : F ≤ 24) (ht : t < F) : Ok (fX8_last N so fo t) (fun r => r = (lsS b t F : Int)) := by
  unfold fX8_last
  have hle := ctB_le b (t + 1)
  have h2 := hR.last ht
  have e1 : so t + 1 = (ctB b (t + 1) : Int) := by rw [hR.2.1 t ht]; omega
  have e2 : so t = (ctB b (t + 1) : Int) - 1 := hR.2.1 t ht
  rw [Int.toNat_natCast, e1, Int.toNat_natCast]
  exact Ok.gd (by omega) (Ok.gd (by omega) (Ok.ret (by rw [h2]; omega)))
def wbS (b : Nat → Bool) (t r : Nat) : Nat := if stS b t < t - r then t - r else stS b t
def wlS (b : Nat → Bool) (F t r : Nat) : Nat := if t + r < lsS b t F then t + r else lsS b t F
theorem wStart_ok {N F t r : Nat} {b : Nat → Bool} {many : Int} {so fo se : Nat → Int} (hR : ScR b F many so fo) (h0 : b 0 = true) (hF : F ≤ 24) (ht : t < F) (hr : se 0 = (r : Int)) (hr3 : r ≤ 3) : Ok (fX1_windowStart N so fo se t) (fun x => x = (wbS b t r : Int)) := by
  unfold fX1_windowStart
  refine Ok.bind (start_ok hR h0 hF ht) (fun x hx => ?_)
  have hs := stS_spec h0 t
  rw [(show ((0 : Int)).toNat = 0 from rfl), hx, hr, mxZ_max (by omega)]
  refine Ok.gd (by omega) (Ok.ret ?_)
  unfold wbS
  by_cases q : stS b t < t - r
  · rw [if_pos q, if_pos (by omega)]; omega
  · rw [if_neg q, if_neg (by omega)]
theorem wLast_ok {N F t r : Nat} {b : Nat → Bool} {many : Int} {so fo se : Nat → Int} (hR : ScR b F many so fo) (hF : F ≤ 24) (ht : t < F) (hr : se 0 = (r : Int)) (hr3 : r ≤ 3) : Ok (fX1_windowLast N so fo se t) (fun x => x = (wlS b F t r : Int)) := by
  unfold fX1_windowLast
  refine Ok.bind (last_ok hR hF ht) (fun x hx => ?_)
  have hs := lsS_spec (b := b) F ht
  rw [(show ((0 : Int)).toNat = 0 from rfl), hx, hr, mnZ_min (by omega)]
  refine Ok.gd (by omega) (Ok.ret ?_)
  unfold wlS
  by_cases q : t + r < lsS b t F
  · rw [if_pos q, if_pos (by omega)]; omega
  · rw [if_neg q, if_neg (by omega)]
/-- the weight with which u counts for t -/
def wtS (sk se w : Nat → Int) (b : Nat → Bool) (F t u : Nat) : Int := if stS b t ≤ u ∧ u ≤ lsS b t F ∧ t ≤ u + (se 0).toNat ∧ u ≤ t + (se 0).toNat ∧ sk u = 0 then w (if t ≤ u then u - t else t - u) else 0
theorem wtS_b {sk se w : Nat → Int} {b : Nat → Bool} {F t u : Nat} (hw : ∀ k, k < 4 → 1 ≤ w k ∧ w k ≤ 9) (hr : se 0 ≤ 3) : 0 ≤ wtS sk se w b F t u ∧ wtS sk se w b F t u ≤ 9 := by
  unfold wtS
  by_cases q : stS b t ≤ u ∧ u ≤ lsS b t F ∧ t ≤ u + (se 0).toNat ∧ u ≤ t + (se 0).toNat ∧ sk u = 0
  · rw [if_pos q]
    by_cases q2 : t ≤ u
    · rw [if_pos q2]; have := hw (u - t) (by omega); omega
    · rw [if_neg q2]; have := hw (t - u) (by omega); omega
  · rw [if_neg q]; omega
/-- outside the window nothing counts -/
theorem wtS_out {sk se w : Nat → Int} {b : Nat → Bool} {F t u : Nat} (h : u < wbS b t (se 0).toNat ∨ wlS b F t (se 0).toNat < u) : wtS sk se w b F t u = 0 := by
  unfold wtS
  rw [if_neg]
  rintro ⟨h1, h2, h3, h4, h5⟩
  unfold wbS wlS at h
  rcases h with h | h
  · by_cases q : stS b t < t - (se 0).toNat
    · rw [if_pos q] at h; omega
    · rw [if_neg q] at h; omega
  · by_cases q : t + (se 0).toNat < lsS b t F
    · rw [if_pos q] at h; omega
    · rw [if_neg q] at h; omega
theorem wtS_in {sk se w : Nat → Int} {b : Nat → Bool} {F t u : Nat} (h1 : wbS b t (se 0).toNat ≤ u) (h2 : u ≤ wlS b F t (se 0).toNat) : wtS sk se w b F t u = if sk u = 0 then w (if t ≤ u then u - t else t - u) else 0 := by
  unfold wtS
  unfold wbS at h1
  unfold wlS at h2
  have a1 : stS b t ≤ u ∧ t ≤ u + (se 0).toNat := by
    by_cases q : stS b t < t - (se 0).toNat
    · rw [if_pos q] at h1; omega
    · rw [if_neg q] at h1; omega
  have a2 : u ≤ lsS b t F ∧ u ≤ t + (se 0).toNat := by
    by_cases q : t + (se 0).toNat < lsS b t F
    · rw [if_pos q] at h2; omega
    · rw [if_neg q] at h2; omega
  by_cases q : sk u = 0
  · rw [if_pos ⟨a1.1, a2.1, a1.2, a2.2, q⟩, if_pos q]
  · rw [if_neg (fun z => q z.2.2.2.2), if_neg q]
/-- beyond an index where nothing counts the sum stands -/
theorem sI_tail {f : Nat → Int} {a : Nat} : ∀ {n : Nat}, a ≤ n → (∀ k, a ≤ k → k < n → f k = 0) → sI f n = sI f a
  | 0, h, _ => by rw [show a = 0 by omega]
  | n + 1, h, hz => by
    by_cases q : a = n + 1
    · rw [q]
    · rw [sI_succ, sI_tail (n := n) (by omega) (fun k h1 h2 => hz k h1 (by omega)), hz n (by omega) (by omega), Int.add_zero]
def wnS (sk se w : Nat → Int) (b : Nat → Bool) (C : Nat → Int) (F t v : Nat) : Nat → Int := fun u => wtS sk se w b F t u * C (16 * u + v)
noncomputable def tgW (sk se we : Nat → Int) (b : Nat → Bool) (C : Nat → Int) (F t v : Nat) : Int := if sI (wtS sk se we b F t) F = 0 then C (16 * t + v) else sI (wnS sk se we b C F t v) F / sI (wtS sk se we b F t) F
noncomputable def tgS (sk se we : Nat → Int) (b : Nat → Bool) (C : Nat → Int) (F t v : Nat) : Int := if se 5 = 2 then C (16 * kyS b C F t + v) else tgW sk se we b C F t v
theorem dZ_div {x y : Int} (hx : 0 ≤ x ∧ x < 2147483648) (hy : 0 < y ∧ y < 2147483648) : dZ x y = x / y := by
  obtain ⟨a, rfl⟩ : ∃ a : Nat, x = (a : Int) := ⟨x.toNat, by omega⟩
  obtain ⟨c, rfl⟩ : ∃ c : Nat, y = (c : Int) := ⟨y.toNat, by omega⟩
  unfold dZ
  have hd : a / c ≤ a := Nat.div_le_self _ _
  rw [iZ_nat, iZ_nat, pk_div (by omega) (by omega) (by omega), ← iZ_nat, iZ_natI (by omega)]
  rfl
theorem mZ_mod {x y : Int} (hx : 0 ≤ x ∧ x < 2147483648) (hy : 0 < y ∧ y < 2147483648) : mZ x y = x % y := by
  obtain ⟨a, rfl⟩ : ∃ a : Nat, x = (a : Int) := ⟨x.toNat, by omega⟩
  obtain ⟨c, rfl⟩ : ∃ c : Nat, y = (c : Int) := ⟨y.toNat, by omega⟩
  unfold mZ
  have hd : a % c < c := Nat.mod_lt _ (by omega)
  rw [iZ_nat, iZ_nat, pk_rem (by omega) (by omega) (by omega), ← iZ_nat, iZ_natI (by omega)]
  rfl
theorem wt_sum_b {sk se we : Nat → Int} {b : Nat → Bool} {F t : Nat} (hw : ∀ k, k < 4 → 1 ≤ we k ∧ we k ≤ 9) (hr : se 0 ≤ 3) {n : Nat} (hn : n ≤ 24) : 0 ≤ sI (wtS sk se we b F t) n ∧ sI (wtS sk se we b F t) n ≤ 216 := by
  have h := sI_bound (f := wtS sk se we b F t) (c := 9) (n := n) (fun k _ => wtS_b hw hr)
  omega
theorem wn_b {sk se we C : Nat → Int} {b : Nat → Bool} {F t v u : Nat} (hw : ∀ k, k < 4 → 1 ≤ we k ∧ we k ≤ 9) (hr : se 0 ≤ 3) (hC : RowB C) (hv : v < 16) (hu : u < 24) : 0 ≤ wnS sk se we b C F t v u ∧ wnS sk se we b C F t v u ≤ 576 := by
  unfold wnS
  have h1 := wtS_b (sk := sk) (b := b) (F := F) (t := t) (u := u) hw hr
  have h2 := hC (16 * u + v) (by omega)
  have h3 : 0 ≤ wtS sk se we b F t u * C (16 * u + v) := Int.mul_nonneg h1.1 h2.1
  have h4 : wtS sk se we b F t u * C (16 * u + v) ≤ 9 * 64 := Int.mul_le_mul h1.2 h2.2 h2.1 (by omega)
  omega
theorem wn_sum_b {sk se we C : Nat → Int} {b : Nat → Bool} {F t v : Nat} (hw : ∀ k, k < 4 → 1 ≤ we k ∧ we k ≤ 9) (hr : se 0 ≤ 3) (hC : RowB C) (hv : v < 16) {n : Nat} (hn : n ≤ 24) : 0 ≤ sI (wnS sk se we b C F t v) n ∧ sI (wnS sk se we b C F t v) n ≤ 13824 := by
  have h := sI_bound (f := wnS sk se we b C F t v) (c := 576) (n := n) (fun k hk => wn_b hw hr hC hv (by omega))
  omega
end P7
