/-! Parting. -/
section PP
def mnS (w : Nat → Int) (a : Nat) : Nat → Int
  | 0 => w a
  | n + 1 => if w (a + n + 1) < mnS w a n then w (a + n + 1) else mnS w a n
theorem mnS_succ (w : Nat → Int) (a n : Nat) : mnS w a (n + 1) = if w (a + n + 1) < mnS w a n then w (a + n + 1) else mnS w a n := rfl
theorem mn_md (w : Nat → Int) (a : Nat) : ∀ n, w (mdS w a n) = mnS w a n
  | 0 => rfl
  | n + 1 => by
    have ih := mn_md w a n
    rw [mdS_succ, mnS_succ, ← ih]
    by_cases q : w (a + n + 1) < w (mdS w a n)
    · rw [if_pos q, if_pos q]
    · rw [if_neg q, if_neg q]
theorem mnS_b {w : Nat → Int} {a : Nat} {c : Int} : ∀ {n : Nat}, (∀ j, a ≤ j → j ≤ a + n → 0 ≤ w j ∧ w j ≤ c) → 0 ≤ mnS w a n ∧ mnS w a n ≤ c
  | 0, h => h a (by omega) (by omega)
  | n + 1, h => by
    have ih := mnS_b (n := n) (fun j h1 h2 => h j h1 (by omega))
    have hn := h (a + n + 1) (by omega) (by omega)
    rw [mnS_succ]
    by_cases q : w (a + n + 1) < mnS w a n
    · rw [if_pos q]; exact hn
    · rw [if_neg q]; exact ih
/-- what frames from a to e cost -/
def coS (C : Nat → Int) (a e : Nat) : Int := mnS (awS C a (e + 1 - a)) a (e - a)
theorem coS_b {C : Nat → Int} (hC : RowB C) {a e : Nat} (h : a ≤ e) (he : e < 24) : 0 ≤ coS C a e ∧ coS C a e ≤ 24576 := mnS_b (fun j h1 h2 => awS_b hC (by omega) (by omega))
def mfS (E : Int) (g : Nat → Int) : Nat → Int
  | 0 => E
  | n + 1 => if g n < mfS E g n then g n else mfS E g n
theorem mfS_succ (E : Int) (g : Nat → Int) (n : Nat) : mfS E g (n + 1) = if g n < mfS E g n then g n else mfS E g n := rfl
theorem mfS_cong {E : Int} {g g' : Nat → Int} : ∀ {n : Nat}, (∀ j, j < n → g j = g' j) → mfS E g n = mfS E g' n
  | 0, _ => rfl
  | n + 1, h => by rw [mfS_succ, mfS_succ, mfS_cong (n := n) (fun j hj => h j (by omega)), h n (by omega)]
theorem mfS_le {E : Int} {g : Nat → Int} : ∀ {n : Nat}, mfS E g n ≤ E ∧ ∀ j, j < n → mfS E g n ≤ g j
  | 0 => ⟨Int.le_refl _, fun j hj => by omega⟩
  | n + 1 => by
    have ih := mfS_le (E := E) (g := g) (n := n)
    rw [mfS_succ]
    by_cases q : g n < mfS E g n
    · rw [if_pos q]
      refine ⟨by omega, fun j hj => ?_⟩
      by_cases z : j = n
      · rw [z]; omega
      · have := ih.2 j (by omega); omega
    · rw [if_neg q]
      refine ⟨ih.1, fun j hj => ?_⟩
      by_cases z : j = n
      · rw [z]; omega
      · exact ih.2 j (by omega)
theorem mfS_in {E : Int} {g : Nat → Int} : ∀ {n : Nat}, mfS E g n = E ∨ ∃ j, j < n ∧ mfS E g n = g j
  | 0 => Or.inl rfl
  | n + 1 => by
    rw [mfS_succ]
    by_cases q : g n < mfS E g n
    · rw [if_pos q]; exact Or.inr ⟨n, by omega, rfl⟩
    · rw [if_neg q]
      rcases mfS_in (E := E) (g := g) (n := n) with z | ⟨j, z1, z2⟩
      · exact Or.inl z
      · exact Or.inr ⟨j, by omega, z2⟩
def ptS (C : Nat → Int) (F : Nat) (E : Int) : Nat → Nat → Int
  | 0 => fun f => if f = F then 0 else E
  | k + 1 => fun f => mfS E (fun j => coS C f (f + j) + ptS C F E k (f + j + 1)) (F - f)
theorem ptS_succ (C : Nat → Int) (F : Nat) (E : Int) (k f : Nat) : ptS C F E (k + 1) f = mfS E (fun j => coS C f (f + j) + ptS C F E k (f + j + 1)) (F - f) := rfl
def fnP (F k f : Nat) : Prop := (k = 0 ∧ f = F) ∨ (0 < k ∧ f + k ≤ F)
/-- within reach the ends do not matter -/
theorem ptS_fin {C : Nat → Int} (hC : RowB C) {F : Nat} (hF : F ≤ 24) {E : Int} (hE : 1000000 ≤ E) : ∀ k, k ≤ 8 → ∀ f, f ≤ F → (fnP F k f → ptS C F E k f = ptS C F 1000000 k f ∧ 0 ≤ ptS C F E k f ∧ ptS C F E k f ≤ 24576 * k) ∧ (¬ fnP F k f → ptS C F E k f = E ∧ ptS C F 1000000 k f = 1000000) := by
  intro k
  induction k with
  | zero =>
    intro _ f hf
    refine ⟨fun h => ?_, fun h => ?_⟩
    · have e1 : f = F := by unfold fnP at h; omega
      show (if f = F then (0 : Int) else E) = (if f = F then (0 : Int) else 1000000) ∧ 0 ≤ (if f = F then (0 : Int) else E) ∧ (if f = F then (0 : Int) else E) ≤ 24576 * ((0 : Nat) : Int)
      rw [if_pos e1, if_pos e1]; omega
    · show (if f = F then (0 : Int) else E) = E ∧ (if f = F then (0 : Int) else 1000000) = 1000000
      have hn : ¬ f = F := fun z => h (Or.inl ⟨rfl, z⟩)
      exact ⟨if_neg hn, if_neg hn⟩
  | succ k ih =>
    intro hk f hf
    have ihk := ih (by omega)
    have elt : ∀ j, j < F - f → 0 ≤ coS C f (f + j) ∧ coS C f (f + j) ≤ 24576 := fun j hj => coS_b hC (by omega) (by omega)
    refine ⟨fun h => ?_, fun h => ?_⟩
    · have hex : ∃ j, j < F - f ∧ fnP F k (f + j + 1) := by
        unfold fnP at h ⊢
        by_cases z : k = 0
        · exact ⟨F - f - 1, by omega, by omega⟩
        · exact ⟨0, by omega, by omega⟩
      obtain ⟨j0, j1, j2⟩ := hex
      have a0 := (ihk (f + j0 + 1) (by omega)).1 j2
      have c0 := elt j0 j1
      have up := (mfS_le (E := E) (g := fun j => coS C f (f + j) + ptS C F E k (f + j + 1)) (n := F - f)).2 j0 j1
      have up2 := (mfS_le (E := 1000000) (g := fun j => coS C f (f + j) + ptS C F 1000000 k (f + j + 1)) (n := F - f)).2 j0 j1
      have up' : mfS E (fun j => coS C f (f + j) + ptS C F E k (f + j + 1)) (F - f) ≤ coS C f (f + j0) + ptS C F E k (f + j0 + 1) := up
      have up2' : mfS 1000000 (fun j => coS C f (f + j) + ptS C F 1000000 k (f + j + 1)) (F - f) ≤ coS C f (f + j0) + ptS C F 1000000 k (f + j0 + 1) := up2
      rw [ptS_succ, ptS_succ]
      have hi1 := mfS_in (E := E) (g := fun j => coS C f (f + j) + ptS C F E k (f + j + 1)) (n := F - f)
      have hi2 := mfS_in (E := 1000000) (g := fun j => coS C f (f + j) + ptS C F 1000000 k (f + j + 1)) (n := F - f)
      have hlow : 0 ≤ mfS E (fun j => coS C f (f + j) + ptS C F E k (f + j + 1)) (F - f) ∧ mfS 1000000 (fun j => coS C f (f + j) + ptS C F 1000000 k (f + j + 1)) (F - f) ≤ mfS E (fun j => coS C f (f + j) + ptS C F E k (f + j + 1)) (F - f) := by
        rcases hi1 with z | ⟨j, z1, z2⟩
        · exfalso; omega
        · have z2' : mfS E (fun j => coS C f (f + j) + ptS C F E k (f + j + 1)) (F - f) = coS C f (f + j) + ptS C F E k (f + j + 1) := z2
          have cj := elt j z1
          rcases Classical.em (fnP F k (f + j + 1)) with y | y
          · have aj := (ihk (f + j + 1) (by omega)).1 y
            have u2 : mfS 1000000 (fun j => coS C f (f + j) + ptS C F 1000000 k (f + j + 1)) (F - f) ≤ coS C f (f + j) + ptS C F 1000000 k (f + j + 1) := (mfS_le (E := 1000000) (g := fun j => coS C f (f + j) + ptS C F 1000000 k (f + j + 1)) (n := F - f)).2 j z1
            omega
          · have aj := (ihk (f + j + 1) (by omega)).2 y
            omega
      have hhigh : mfS E (fun j => coS C f (f + j) + ptS C F E k (f + j + 1)) (F - f) ≤ mfS 1000000 (fun j => coS C f (f + j) + ptS C F 1000000 k (f + j + 1)) (F - f) := by
        rcases hi2 with z | ⟨j, z1, z2⟩
        · omega
        · have z2' : mfS 1000000 (fun j => coS C f (f + j) + ptS C F 1000000 k (f + j + 1)) (F - f) = coS C f (f + j) + ptS C F 1000000 k (f + j + 1) := z2
          have cj := elt j z1
          have u1 : mfS E (fun j => coS C f (f + j) + ptS C F E k (f + j + 1)) (F - f) ≤ coS C f (f + j) + ptS C F E k (f + j + 1) := (mfS_le (E := E) (g := fun j => coS C f (f + j) + ptS C F E k (f + j + 1)) (n := F - f)).2 j z1
          rcases Classical.em (fnP F k (f + j + 1)) with y | y
          · have aj := (ihk (f + j + 1) (by omega)).1 y
            omega
          · have aj := (ihk (f + j + 1) (by omega)).2 y
            omega
      omega
    · have none : ∀ E' : Int, (∀ g, g ≤ F → ¬ fnP F k g → ptS C F E' k g = E') → ptS C F E' (k + 1) f = E' := by
        intro E' hE'
        rw [ptS_succ]
        have hi1 := mfS_in (E := E') (g := fun j => coS C f (f + j) + ptS C F E' k (f + j + 1)) (n := F - f)
        have hl := (mfS_le (E := E') (g := fun j => coS C f (f + j) + ptS C F E' k (f + j + 1)) (n := F - f)).1
        rcases hi1 with z | ⟨j, z1, z2⟩
        · exact z
        · have z2' : mfS E' (fun j => coS C f (f + j) + ptS C F E' k (f + j + 1)) (F - f) = coS C f (f + j) + ptS C F E' k (f + j + 1) := z2
          have cj := elt j z1
          have y : ¬ fnP F k (f + j + 1) := fun y => h (by unfold fnP at y ⊢; omega)
          have aj := hE' (f + j + 1) (by omega) y
          omega
      exact ⟨none E (fun g hg hn => ((ihk g hg).2 hn).1), none 1000000 (fun g hg hn => ((ihk g hg).2 hn).2)⟩
/-- the costs as the class has them: its gaps, its sums -/
def GpR (C : Nat → Int) (F : Nat) (g : Nat → Int) : Prop := ∀ a e, a < e → e < F → g (24 * a + e) = gapS C a e
theorem gaps_ok {N F : Nat} {C c g0 : Nat → Int} (hF : F ≤ 24) (hN : 400 < N) (hc : CR C F c) (hC : RowB C) (hB : RowB c) : Ok (fX5_measureGaps N F c g0) (fun g => GpR C F g) := by
  unfold fX5_measureGaps
  refine Ok.loop (fun m i g => fX5_measureGaps_L2 N F c (fX5_measureGaps_j51 N F c) m (i : Int) g) F (fun i g => ∀ a e, a < i → a < e → e < F → g (24 * a + e) = gapS C a e) _ ?_ ?_ N 0 g0 (by omega) (by omega) (fun a e h => by omega)
  · intro m i g hi hI ih
    show Ok (fX5_measureGaps_b2 N F c _ _ (i : Int) g) _
    unfold fX5_measureGaps_b2
    refine Ok.ltp (by omega) ?_
    rw [show (i : Int) + 1 = ((i + 1 : Nat) : Int) by omega]
    refine Ok.loop (fun n j h => fX5_measureGaps_L14 N F c (fX5_measureGaps_j45 N F c (fX5_measureGaps_L2 N F c (fX5_measureGaps_j51 N F c) m) (fX5_measureGaps_j51 N F c)) n (i : Int) (j : Int) h) F (fun j h => i + 1 ≤ j ∧ (∀ a e, a < i → a < e → e < F → h (24 * a + e) = gapS C a e) ∧ ∀ e, i < e → e < j → h (24 * i + e) = gapS C i e) _ ?_ ?_ N (i + 1) g (by omega) (by omega) ⟨by omega, hI, fun e h1 h2 => by omega⟩
    · intro n j h hj hI2 ih2
      obtain ⟨k0, k1, k2⟩ := hI2
      show Ok (fX5_measureGaps_b14 N F c _ _ (i : Int) (j : Int) h) _
      unfold fX5_measureGaps_b14
      rw [show ((i : Int) * 24 + (j : Int)).toNat = 24 * i + j by omega]
      refine Ok.ltp (by omega) (Ok.bind (gapC_ok hc hC hB hF hi hj (by omega)) (fun r3 h3 => Ok.gd (by omega) (ih2 _ ⟨by omega, ?_, ?_⟩)))
      · intro a e h1 h2 h4
        rw [uZ_ne (by omega)]; exact k1 a e h1 h2 h4
      · intro e h1 h2
        by_cases z : e = j
        · rw [z, uZ_at]; exact h3.1
        · rw [uZ_ne (by omega)]; exact k2 e h1 (by omega)
    · intro n h hI2
      obtain ⟨k0, k1, k2⟩ := hI2
      show Ok (fX5_measureGaps_b14 N F c _ _ (i : Int) (F : Int) h) _
      unfold fX5_measureGaps_b14 fX5_measureGaps_j45
      refine Ok.ltn (by omega) ?_
      rw [show (i : Int) + 1 = ((i + 1 : Nat) : Int) by omega]
      refine ih h ?_
      intro a e h1 h2 h3
      by_cases z : a = i
      · rw [z]; exact k2 e (by omega) h3
      · exact k1 a e (by omega) h2 h3
  · intro m g hI
    show Ok (fX5_measureGaps_b2 N F c _ _ (F : Int) g) _
    unfold fX5_measureGaps_b2 fX5_measureGaps_j51
    exact Ok.ltn (by omega) (Ok.ret (fun a e h1 h2 => hI a e (by omega) h1 h2))
theorem awS_self {C : Nat → Int} {a n : Nat} : awS C a (n + 1) (a + n) = awS C a n (a + n) := by rw [awS_succ, gapS_self, Int.add_zero]
theorem addCosts_ok {N F a : Nat} {C g su co : Nat → Int} (hF : F ≤ 24) (ha : a < F) (hN : 400 < N) (hC : RowB C) (hg : GpR C F g) : Ok (fX5_addCosts N F g su co a) (fun r => (∀ e, a ≤ e → e < F → r.2 (24 * a + e) = coS C a e) ∧ ∀ j, (j < 24 * a ∨ 24 * a + 24 ≤ j) → r.2 j = co j) := by
  unfold fX5_addCosts
  refine Ok.loop (fun m i (x : (Nat → Int) × (Nat → Int)) => fX5_addCosts_L2 N F g a (fX5_addCosts_j107 N F g a) m (i : Int) x.1 x.2) F (fun i x => a ≤ i ∧ (∀ u, a ≤ u → u < i → x.1 u = awS C a (i - a) u) ∧ (∀ e, a ≤ e → e < i → x.2 (24 * a + e) = coS C a e) ∧ ∀ j, (j < 24 * a ∨ 24 * a + 24 ≤ j) → x.2 j = co j) _ ?_ ?_ N a (su, co) (by omega) (by omega) ⟨by omega, fun u h1 h2 => by omega, fun e h1 h2 => by omega, fun j _ => rfl⟩
  · intro m t x ht hI ih
    obtain ⟨i1, i2, i3, i4⟩ := hI
    show Ok (fX5_addCosts_b2 N F g a _ _ (t : Int) x.1 x.2) _
    unfold fX5_addCosts_b2
    refine Ok.ltp (by omega) ?_
    have hw : ∀ u, u < 24 → 0 ≤ awS C a (t + 1 - a) u ∧ awS C a (t + 1 - a) u ≤ 24576 := fun u hu => awS_b hC hu (by omega)
    have hw0 : ∀ n u, n ≤ t - a → u < 24 → 0 ≤ awS C a n u ∧ awS C a n u ≤ 24576 := fun n u hn hu => awS_b hC hu (by omega)
    have ht1 : t + 1 - a = (t - a) + 1 := by omega
    refine Ok.loop (fun n u (y : Int × Int × (Nat → Int)) => fX5_addCosts_L19 N F g a (fX5_addCosts_j76 N F g a (fX5_addCosts_L2 N F g a (fX5_addCosts_j107 N F g a) m) (fX5_addCosts_j107 N F g a)) n (t : Int) y.1 y.2.1 (u : Int) y.2.2 x.2) t (fun u y => a ≤ u ∧ ((u = a ∧ y.1 = 1000000) ∨ (a < u ∧ y.1 = mnS (awS C a (t + 1 - a)) a (u - 1 - a))) ∧ y.2.1 = awS C a (u - a) t ∧ (∀ v, a ≤ v → v < u → y.2.2 v = awS C a (t + 1 - a) v) ∧ ∀ v, u ≤ v → v < t → y.2.2 v = awS C a (t - a) v) _ ?_ ?_ N a (1000000, 0, x.1) (by omega) (by omega) ⟨by omega, Or.inl ⟨rfl, rfl⟩, ?_, ?_, ?_⟩
    · intro n u y hu hI2 ih2
      obtain ⟨k0, k1, k2, k3, k4⟩ := hI2
      show Ok (fX5_addCosts_b19 N F g a _ _ (t : Int) y.1 y.2.1 (u : Int) y.2.2 x.2) _
      unfold fX5_addCosts_b19
      have hgu := hg u t hu ht
      have hgb := gapS_b hC (t := u) (u := t) (by omega) (by omega)
      have e0 : y.2.2 u = awS C a (t - a) u := k4 u (by omega) hu
      have e1 : awS C a (t - a) u + gapS C u t = awS C a (t + 1 - a) u := by
        rw [ht1, awS_succ, show a + (t - a) = t by omega]
      have hb := hw u (by omega)
      rw [show ((u : Int) * 24 + (t : Int)).toNat = 24 * u + t by omega, Int.toNat_natCast, hgu, uZ_at, e0, e1]
      have hy1 : y.1 = 1000000 ∨ (0 ≤ y.1 ∧ y.1 ≤ 24576) := by
        rcases k1 with z | z
        · exact Or.inl z.2
        · right; rw [z.2]; exact mnS_b (fun j h1 h2 => hw j (by omega))
      rw [mnZ_min (by omega)]
      refine Ok.ltp (by omega) (Ok.gd (by omega) (Ok.gd (by omega) (Ok.gd (by omega) (Ok.gd (by omega) (ih2 (_, _, _) ⟨by omega, Or.inr ⟨by omega, ?_⟩, ?_, ?_, ?_⟩)))))
      · show (if awS C a (t + 1 - a) u < y.1 then awS C a (t + 1 - a) u else y.1) = _
        rcases k1 with z | z
        · rw [if_pos (by omega), show u + 1 - 1 - a = 0 by omega, z.1]; rfl
        · rw [show u + 1 - 1 - a = (u - 1 - a) + 1 by omega, mnS_succ, ← z.2, show a + (u - 1 - a) + 1 = u by omega]
      · show y.2.1 + gapS C u t = _
        rw [k2, show u + 1 - a = (u - a) + 1 by omega, awS_succ, show a + (u - a) = u by omega, gapS_sym]
      · intro v h1 h2
        show uZ _ _ _ v = _
        by_cases z : v = u
        · rw [z, uZ_at]
        · rw [uZ_ne z]; exact k3 v h1 (by omega)
      · intro v h1 h2
        show uZ _ _ _ v = _
        rw [uZ_ne (by omega)]; exact k4 v (by omega) h2
    · intro n y hI2
      obtain ⟨k0, k1, k2, k3, k4⟩ := hI2
      show Ok (fX5_addCosts_b19 N F g a _ _ (t : Int) y.1 y.2.1 (t : Int) y.2.2 x.2) _
      unfold fX5_addCosts_b19 fX5_addCosts_j76
      have ht2 : y.2.1 = awS C a (t + 1 - a) t := by
        rw [k2, ht1]
        have := awS_self (C := C) (a := a) (n := t - a)
        rw [show a + (t - a) = t by omega] at this
        exact this.symm
      have hb := hw t (by omega)
      rw [← ht2] at hb
      have hy1 : y.1 = 1000000 ∨ (0 ≤ y.1 ∧ y.1 ≤ 24576) := by
        rcases k1 with z | z
        · exact Or.inl z.2
        · right; rw [z.2]; exact mnS_b (fun j h1 h2 => hw j (by omega))
      have hmn : mnZ y.1 y.2.1 = if y.2.1 < y.1 then y.2.1 else y.1 := mnZ_min (by omega)
      rw [show ((a : Int) * 24 + (t : Int)).toNat = 24 * a + t by omega, Int.toNat_natCast, hmn]
      refine Ok.ltn (by omega) (Ok.gd (by omega) (Ok.gd (by omega) ?_))
      rw [show (t : Int) + 1 = ((t + 1 : Nat) : Int) by omega]
      refine ih (_, _) ⟨by omega, ?_, ?_, ?_⟩
      · intro u h1 h2
        show uZ _ _ _ u = _
        by_cases z : u = t
        · rw [z, uZ_at]; exact ht2
        · rw [uZ_ne z]; exact k3 u h1 (by omega)
      · intro e h1 h2
        show uZ _ _ _ _ = _
        by_cases z : e = t
        · rw [z, uZ_at]
          unfold coS
          rcases k1 with w | w
          · rw [if_pos (by omega), show t - a = 0 by omega, ht2]
            show _ = awS C a (t + 1 - a) a
            rw [w.1]
          · rw [show t - a = (t - 1 - a) + 1 by omega, mnS_succ, ← w.2, show a + (t - 1 - a) + 1 = t by omega, ← ht2]
        · rw [uZ_ne (by omega)]; exact i3 e h1 (by omega)
      · intro j hj
        show uZ _ _ _ _ = _
        rw [uZ_ne (by omega)]; exact i4 j hj
    · show (0 : Int) = awS C a (a - a) t
      rw [Nat.sub_self]; rfl
    · intro v h1 h2; omega
    · intro v h1 h2; exact i2 v h1 h2
  · intro m x hI
    obtain ⟨i1, i2, i3, i4⟩ := hI
    show Ok (fX5_addCosts_b2 N F g a _ _ (F : Int) x.1 x.2) _
    unfold fX5_addCosts_b2 fX5_addCosts_j107
    exact Ok.ltn (by omega) (Ok.ret ⟨i3, i4⟩)
def CoR (C : Nat → Int) (F : Nat) (co : Nat → Int) : Prop := ∀ a e, a ≤ e → e < F → co (24 * a + e) = coS C a e
def LeR (C : Nat → Int) (F : Nat) (E : Int) (n : Nat) (le : Nat → Int) : Prop := ∀ k f, k ≤ n → f ≤ F → le (25 * k + f) = ptS C F E k f
theorem least_ok {N k f : Nat} {le : Nat → Int} (hk : k ≤ 8) (hf : f ≤ 24) : Ok (fX5_least N le k f) (fun r => r = le (25 * k + f)) := by
  unfold fX5_least
  rw [show ((k : Int) * 25 + (f : Int)).toNat = 25 * k + f by omega]
  exact Ok.gd (by omega) (Ok.ret rfl)
theorem costBy_ok {N F k f e : Nat} {C co le : Nat → Int} (hF : F ≤ 24) (hk : k < 8) (hf : f < e) (he : e ≤ F) (hco : CoR C F co) : Ok (fX5_costBy N co le ((k + 1 : Nat) : Int) f e) (fun r => r = coS C f (e - 1) + le (25 * k + e)) := by
  unfold fX5_costBy
  rw [show ((f : Int) * 24 + (e : Int) - 1).toNat = 24 * f + (e - 1) by omega, hco f (e - 1) (by omega) (by omega), show ((k + 1 : Nat) : Int) - 1 = (k : Int) by omega]
  refine Ok.gd (by omega) (Ok.bind (least_ok (by omega) (by omega)) (fun r2 h2 => Ok.ret (by rw [h2])))
end PP
