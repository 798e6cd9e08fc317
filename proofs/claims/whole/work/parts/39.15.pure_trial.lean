/-! Trials: the best radius, the least step, rounds, settling. -/
section PM
theorem uZ_uZ (f : Nat → Int) (k : Nat) (a b : Int) : uZ (uZ f k a) k b = uZ f k b := by
  funext j
  by_cases q : j = k
  · rw [q, uZ_at, uZ_at]
  · rw [uZ_ne q, uZ_ne q, uZ_ne q]
theorem uZ_self (f : Nat → Int) (k : Nat) : uZ f k (f k) = f := by
  funext j
  by_cases q : j = k
  · rw [q, uZ_at]
  · rw [uZ_ne q]
theorem beginTrial_ok {N : Nat} {d cu sk se we : Nat → Int} {W H F : Nat} {w2 h2 f2 : Int} {d2 cu2 sk2 se2 we2 : Nat → Int} {lk en : Int} (hv : FV d cu sk se we W H F) : Ok (fX11_beginTrial N W H F d cu sk se we w2 h2 f2 d2 cu2 sk2 se2 we2 lk en) (fun r => r.1 = (W : Int) ∧ r.2.1 = (H : Int) ∧ r.2.2.1 = (F : Int) ∧ FQ d cu sk se we r.2.2.2.1 r.2.2.2.2.1 r.2.2.2.2.2.1 r.2.2.2.2.2.2.1 r.2.2.2.2.2.2.2.1 W H F ∧ r.2.2.2.2.2.2.2.2.1 = 0 ∧ r.2.2.2.2.2.2.2.2.2 = 0) := by
  unfold fX11_beginTrial fX1_forget
  exact Ok.bind (copy_ok hv.2.2.1 (size_b hv.1 hv.2.1).2) (fun r1 h1 => Ok.bind (Ok.ret (P := fun r => r = (0, 0)) rfl) (fun r hr => by subst hr; exact Ok.ret ⟨h1.1, h1.2.1, h1.2.2.1, h1.2.2.2, rfl, rfl⟩))
noncomputable def FLK (d cu sk se we : Nat → Int) (W H F : Nat) : Int := flS (BS d cu se (W * H)) (CU (EV d cu sk se we W H F) (W * H)) (F - 1)
theorem FV.flk_b {d cu sk se we : Nat → Int} {W H F : Nat} (hv : FV d cu sk se we W H F) : 0 ≤ FLK d cu sk se we W H F ∧ FLK d cu sk se we W H F ≤ 24576 := flS_b (CU_b (size_b hv.1 hv.2.1).2) (by have := hv.2.2.1; omega)
theorem LkR.se4 {d cu sk se we : Nat → Int} {W H F : Nat} {se' c so fo : Nat → Int} {many : Int} (h : LkR d cu sk se we W H F c many so fo) (h4 : se 4 = se' 4) : LkR d cu sk se' we W H F c many so fo := by
  unfold LkR BS at h ⊢
  rw [← h4]; exact h
theorem trialFlicker_ok {N k : Nat} {d cu sk se we : Nat → Int} {W H F : Nat} {lk en many sz : Int} {c so fo su tg tb dt ac ar no og tc : Nat → Int} {x : Int} (hk : k < 6) (hv : FV d cu sk (uZ se k x) we W H F) (hN : 400 < N) (hl : LkI d cu sk (uZ se k x) we W H F lk c many so fo) : Ok (fX11_trialFlicker N W H F d cu sk we se lk en c many so fo su tg tb dt sz ac ar no og tc k x) (fun r => r.1 = FLK d cu sk (uZ se k x) we W H F ∧ r.2.1 = uZ se k x ∧ r.2.2.1 = 1 ∧ LkR d cu sk (uZ se k x) we W H F r.2.2.2.2.1 r.2.2.2.2.2.1 r.2.2.2.2.2.2.1 r.2.2.2.2.2.2.2.1) := by
  unfold fX11_trialFlicker fX1_forgetEvened
  rw [Int.toNat_natCast]
  refine Ok.gd (by omega) (Ok.bind (Ok.ret (P := fun r => r = 0) rfl) (fun r2 h2 => Ok.bind (even_ok hv hN hl (Or.inl h2)) (fun r3 h3 => ?_)))
  refine Ok.bind (flickerOf_ok h3.2.1.2.2 (BS_0 _ _ _ _) hv.2.2.1 h3.2.2.2.2.2.2.1 (CU_b (size_b hv.1 hv.2.1).2) h3.2.2.2.2.2.2.2 (by omega)) (fun r4 h4 => Ok.ret ⟨h4, rfl, h3.1, h3.2.1⟩)
theorem mtrial_ok {N : Nat} {d cu sk se we : Nat → Int} {W H F : Nat} {s me be mc mt mb mo ec ev : Nat → Int} {wm : Int} {α : Type} {P : α → Prop} {k : Int × (Nat → Int) × (Nat → Int) × (Nat → Int) × (Nat → Int) × (Nat → Int) × (Nat → Int) × (Nat → Int) × (Nat → Int) → Int → Option α} (hs : SR s d cu sk se we W H F) (hv : FV d cu sk se we W H F) (hN : 400 < N) (hk : ∀ r4 r5, r5 = FLK d cu sk se we W H F → Ok (k r4 r5) P) : Ok ((fX12_evensAll N s wm me mc be mt mb mo ec ev).bind fun r4 => ((fX12_flickerBy N s r4.2.2.2.1 r4.2.2.2.2.2.2.2.1).bind fun r5 => k r4 r5)) P := by
  refine Ok.bind (evensAll_ok hs hv (by omega)) (fun r4 h4 => ?_)
  exact Ok.bind (flickerBy_ok h4.1.2.2 hs.2.2.1 hv.2.2.1 h4.2.1 (CU_b (size_b hv.1 hv.2.1).2) (by omega)) (fun r5 h5 => hk r4 r5 h5)
/-! the best radius -/
def brS (f : Nat → Int) : Nat → Int × Int
  | 0 => (0, f 0)
  | n + 1 => if f (n + 1) < (brS f n).2 then ((n : Int) + 1, f (n + 1)) else brS f n
theorem brS_succ (f : Nat → Int) (n : Nat) : brS f (n + 1) = if f (n + 1) < (brS f n).2 then ((n : Int) + 1, f (n + 1)) else brS f n := rfl
theorem brS_b {f : Nat → Int} {m : Nat} (h : ∀ i, i ≤ m → 0 ≤ f i ∧ f i ≤ 24576) : ∀ n, n ≤ m → 0 ≤ (brS f n).1 ∧ (brS f n).1 ≤ n ∧ 0 ≤ (brS f n).2 ∧ (brS f n).2 ≤ 24576
  | 0, h0 => ⟨Int.le_refl _, Int.le_refl _, (h 0 h0).1, (h 0 h0).2⟩
  | n + 1, h1 => by
    have ih := brS_b h n (by omega)
    have hn := h (n + 1) h1
    rw [brS_succ]
    by_cases q : f (n + 1) < (brS f n).2
    · rw [if_pos q]
      show 0 ≤ (n : Int) + 1 ∧ (n : Int) + 1 ≤ ((n + 1 : Nat) : Int) ∧ 0 ≤ f (n + 1) ∧ f (n + 1) ≤ 24576
      omega
    · rw [if_neg q]; omega
theorem cbest {N : Nat} {d cu sk se we : Nat → Int} {W H F : Nat} {d0 cu0 sk0 se0 we0 : Nat → Int} (q : EvTy) (hv : FV d cu sk se we W H F) (hN : 400 < N) (hl : q.1 = 0) : Ok (fX11_bestRadius_L11 N W H F d0 cu0 sk0 se0 we0 (fX11_bestRadius_j45 N W H F d0 cu0 sk0 se0 we0) N 0 1000000 0 W H F d cu sk se we q.1 q.2.1 q.2.2.1 q.2.2.2.1 q.2.2.2.2.1 q.2.2.2.2.2.1 q.2.2.2.2.2.2.1 q.2.2.2.2.2.2.2.1 q.2.2.2.2.2.2.2.2.1 q.2.2.2.2.2.2.2.2.2.1 q.2.2.2.2.2.2.2.2.2.2.1 q.2.2.2.2.2.2.2.2.2.2.2.1 q.2.2.2.2.2.2.2.2.2.2.2.2.1 q.2.2.2.2.2.2.2.2.2.2.2.2.2.1 q.2.2.2.2.2.2.2.2.2.2.2.2.2.2.1 q.2.2.2.2.2.2.2.2.2.2.2.2.2.2.2) (fun r => r.1 = (brS (fun i => FLK d cu sk (uZ se 0 (i : Int)) we W H F) 3).1) := by
  have hv0 : ∀ i : Nat, i ≤ 3 → FV d cu sk (uZ se 0 (i : Int)) we W H F := fun i hi => hv.set ⟨by omega, by show (i : Int) ≤ 3; omega, fun z => by omega, fun z => by omega⟩
  have hfb : ∀ i : Nat, i ≤ 3 → 0 ≤ FLK d cu sk (uZ se 0 (i : Int)) we W H F ∧ FLK d cu sk (uZ se 0 (i : Int)) we W H F ≤ 24576 := fun i hi => (hv0 i hi).flk_b
  have hbr := brS_b (f := fun i => FLK d cu sk (uZ se 0 (i : Int)) we W H F) hfb
  refine Ok.loop (fun m i (a : Int × Int × (Nat → Int) × EvTy) => fX11_bestRadius_L11 N W H F d0 cu0 sk0 se0 we0 (fX11_bestRadius_j45 N W H F d0 cu0 sk0 se0 we0) m a.1 a.2.1 (i : Int) W H F d cu sk a.2.2.1 we a.2.2.2.1 a.2.2.2.2.1 a.2.2.2.2.2.1 a.2.2.2.2.2.2.1 a.2.2.2.2.2.2.2.1 a.2.2.2.2.2.2.2.2.1 a.2.2.2.2.2.2.2.2.2.1 a.2.2.2.2.2.2.2.2.2.2.1 a.2.2.2.2.2.2.2.2.2.2.2.1 a.2.2.2.2.2.2.2.2.2.2.2.2.1 a.2.2.2.2.2.2.2.2.2.2.2.2.2.1 a.2.2.2.2.2.2.2.2.2.2.2.2.2.2.1 a.2.2.2.2.2.2.2.2.2.2.2.2.2.2.2.1 a.2.2.2.2.2.2.2.2.2.2.2.2.2.2.2.2.1 a.2.2.2.2.2.2.2.2.2.2.2.2.2.2.2.2.2.1 a.2.2.2.2.2.2.2.2.2.2.2.2.2.2.2.2.2.2) 4 (fun i a => ((i = 0 ∧ a.1 = 0 ∧ a.2.1 = 1000000) ∨ (0 < i ∧ (a.1, a.2.1) = brS (fun i => FLK d cu sk (uZ se 0 (i : Int)) we W H F) (i - 1))) ∧ (∀ x, uZ a.2.2.1 0 x = uZ se 0 x) ∧ LkI d cu sk se we W H F a.2.2.2.1 a.2.2.2.2.2.1 a.2.2.2.2.2.2.1 a.2.2.2.2.2.2.2.1 a.2.2.2.2.2.2.2.2.1) _ ?_ ?_ N 0 (0, 1000000, se, q) (by omega) (by omega) ⟨Or.inl ⟨rfl, rfl, rfl⟩, fun x => rfl, Or.inl hl⟩
  · intro m i a hi hI ih
    obtain ⟨i1, i2, i3⟩ := hI
    show Ok (fX11_bestRadius_b11 N W H F d0 cu0 sk0 se0 we0 _ _ a.1 a.2.1 (i : Int) W H F d cu sk a.2.2.1 we a.2.2.2.1 a.2.2.2.2.1 a.2.2.2.2.2.1 a.2.2.2.2.2.2.1 a.2.2.2.2.2.2.2.1 a.2.2.2.2.2.2.2.2.1 a.2.2.2.2.2.2.2.2.2.1 a.2.2.2.2.2.2.2.2.2.2.1 a.2.2.2.2.2.2.2.2.2.2.2.1 a.2.2.2.2.2.2.2.2.2.2.2.2.1 a.2.2.2.2.2.2.2.2.2.2.2.2.2.1 a.2.2.2.2.2.2.2.2.2.2.2.2.2.2.1 a.2.2.2.2.2.2.2.2.2.2.2.2.2.2.2.1 a.2.2.2.2.2.2.2.2.2.2.2.2.2.2.2.2.1 a.2.2.2.2.2.2.2.2.2.2.2.2.2.2.2.2.2.1 a.2.2.2.2.2.2.2.2.2.2.2.2.2.2.2.2.2.2) _
    unfold fX11_bestRadius_b11
    have hh : hsZ 0 = 3 := rfl
    rw [(show ((0 : Int)).toNat = 0 from rfl), hh]
    refine Ok.gd (by omega) (Ok.ltn (by omega) ?_)
    have e4 : ∀ x, uZ se 0 x 4 = se 4 := fun x => uZ_ne (by omega)
    have hl2 : LkI d cu sk (uZ a.2.2.1 0 (i : Int)) we W H F a.2.2.2.1 a.2.2.2.2.2.1 a.2.2.2.2.2.2.1 a.2.2.2.2.2.2.2.1 a.2.2.2.2.2.2.2.2.1 := by
      rw [i2]
      rcases i3 with z | z
      · exact Or.inl z
      · exact Or.inr ⟨z.1, z.2.se4 (e4 _).symm⟩
    refine Ok.bind (trialFlicker_ok (k := 0) (by omega) (by rw [i2]; exact hv0 i (by omega)) hN hl2) (fun r4 h4 => ?_)
    obtain ⟨h4a, h4b, h4c, h4d⟩ := h4
    rw [i2] at h4a h4b h4d
    have hfi := hfb i (by omega)
    rw [← h4a] at hfi
    have nl : LkI d cu sk se we W H F r4.2.2.1 r4.2.2.2.2.1 r4.2.2.2.2.2.1 r4.2.2.2.2.2.2.1 r4.2.2.2.2.2.2.2.1 := Or.inr ⟨h4c, h4d.se4 (e4 _)⟩
    have nx : ∀ x, uZ r4.2.1 0 x = uZ se 0 x := fun x => by rw [h4b, uZ_uZ]
    have hab : a.2.1 = 1000000 ∨ (0 ≤ a.2.1 ∧ a.2.1 ≤ 24576) := by
      rcases i1 with z | z
      · exact Or.inl z.2.2
      · have := hbr (i - 1) (by omega)
        rw [← z.2] at this
        exact Or.inr this.2.2
    refine Ok.lt (by omega) (fun z => ih (_, _, _, r4.2.2) ⟨Or.inr ⟨by omega, ?_⟩, nx, nl⟩) (fun z => ih (_, _, _, r4.2.2) ⟨Or.inr ⟨by omega, ?_⟩, nx, nl⟩)
    · show ((i : Int), r4.1) = _
      rcases i1 with y | y
      · rw [h4a, y.1]; rfl
      · obtain ⟨n, rfl⟩ : ∃ n, i = n + 1 := ⟨i - 1, by omega⟩
        have y2 := y.2
        rw [show n + 1 - 1 = n by omega] at y2
        rw [show n + 1 + 1 - 1 = n + 1 by omega]
        rw [brS_succ, ← y2, if_pos (by rw [← h4a]; exact z), h4a]; rfl
    · show (a.1, a.2.1) = _
      rcases i1 with y | y
      · exfalso; omega
      · obtain ⟨n, rfl⟩ : ∃ n, i = n + 1 := ⟨i - 1, by omega⟩
        have y2 := y.2
        rw [show n + 1 - 1 = n by omega] at y2
        rw [show n + 1 + 1 - 1 = n + 1 by omega]
        rw [brS_succ, ← y2, if_neg (by rw [← h4a]; show ¬ r4.1 < a.2.1; omega)]
  · intro m a hI
    obtain ⟨i1, i2, i3⟩ := hI
    show Ok (fX11_bestRadius_b11 N W H F d0 cu0 sk0 se0 we0 _ _ a.1 a.2.1 ((4 : Nat) : Int) W H F d cu sk a.2.2.1 we a.2.2.2.1 a.2.2.2.2.1 a.2.2.2.2.2.1 a.2.2.2.2.2.2.1 a.2.2.2.2.2.2.2.1 a.2.2.2.2.2.2.2.2.1 a.2.2.2.2.2.2.2.2.2.1 a.2.2.2.2.2.2.2.2.2.2.1 a.2.2.2.2.2.2.2.2.2.2.2.1 a.2.2.2.2.2.2.2.2.2.2.2.2.1 a.2.2.2.2.2.2.2.2.2.2.2.2.2.1 a.2.2.2.2.2.2.2.2.2.2.2.2.2.2.1 a.2.2.2.2.2.2.2.2.2.2.2.2.2.2.2.1 a.2.2.2.2.2.2.2.2.2.2.2.2.2.2.2.2.1 a.2.2.2.2.2.2.2.2.2.2.2.2.2.2.2.2.2.1 a.2.2.2.2.2.2.2.2.2.2.2.2.2.2.2.2.2.2) _
    unfold fX11_bestRadius_b11 fX11_bestRadius_j45
    have hh : hsZ 0 = 3 := rfl
    rw [(show ((0 : Int)).toNat = 0 from rfl), hh]
    refine Ok.gd (by omega) (Ok.ltp (by omega) (Ok.ret ?_))
    rcases i1 with z | z
    · exfalso; omega
    · show a.1 = _
      rw [← show brS (fun i => FLK d cu sk (uZ se 0 (i : Int)) we W H F) (4 - 1) = brS (fun i => FLK d cu sk (uZ se 0 (i : Int)) we W H F) 3 from rfl, ← z.2]
theorem mbest {N : Nat} {d cu sk se we : Nat → Int} {W H F : Nat} {th wm : Int} {me mc be mt mb mo ec ev : Nat → Int} {s : Nat → Int} (hs : SR s d cu sk se we W H F) (hv : FV d cu sk se we W H F) (hN : 400 < N) : Ok (fX12_bestRadius N th wm s me mc be mt mb mo ec ev) (fun r => r.1 = (brS (fun i => FLK d cu sk (uZ se 0 (i : Int)) we W H F) 3).1 ∧ r.2.2.2.1 = s) := by
  have hv0 : ∀ i : Nat, i ≤ 3 → FV d cu sk (uZ se 0 (i : Int)) we W H F := fun i hi => hv.set ⟨by omega, by show (i : Int) ≤ 3; omega, fun z => by omega, fun z => by omega⟩
  have hfb : ∀ i : Nat, i ≤ 3 → 0 ≤ FLK d cu sk (uZ se 0 (i : Int)) we W H F ∧ FLK d cu sk (uZ se 0 (i : Int)) we W H F ≤ 24576 := fun i hi => (hv0 i hi).flk_b
  have hbr := brS_b (f := fun i => FLK d cu sk (uZ se 0 (i : Int)) we W H F) hfb
  unfold fX12_bestRadius
  rw [(show ((3 : Int)).toNat = 3 from rfl)]
  refine Ok.gd (by omega) ?_
  refine Ok.loop (fun m i (a : Int × Int × Int × (Nat → Int) × (Nat → Int) × (Nat → Int) × (Nat → Int) × (Nat → Int) × (Nat → Int) × (Nat → Int) × (Nat → Int) × (Nat → Int)) => fX12_bestRadius_L19 N (fX12_bestRadius_j73 N) m (s 3) a.1 a.2.1 (i : Int) 0 a.2.2.1 a.2.2.2.1 a.2.2.2.2.1 a.2.2.2.2.2.1 a.2.2.2.2.2.2.1 a.2.2.2.2.2.2.2.1 a.2.2.2.2.2.2.2.2.1 a.2.2.2.2.2.2.2.2.2.1 a.2.2.2.2.2.2.2.2.2.2.1 a.2.2.2.2.2.2.2.2.2.2.2) 4 (fun i a => ((i = 0 ∧ a.1 = -1) ∨ (0 < i ∧ (a.1, a.2.1) = brS (fun i => FLK d cu sk (uZ se 0 (i : Int)) we W H F) (i - 1))) ∧ ∀ x, uZ a.2.2.2.1 3 x = uZ s 3 x) _ ?_ ?_ N 0 (-1, 0, wm, s, me, mc, be, mt, mb, mo, ec, ev) (by omega) (by omega) ⟨Or.inl ⟨rfl, rfl⟩, fun x => rfl⟩
  · intro m i a hi hI ih
    obtain ⟨i1, i2⟩ := hI
    show Ok (fX12_bestRadius_b19 N _ _ (s 3) a.1 a.2.1 (i : Int) 0 a.2.2.1 a.2.2.2.1 a.2.2.2.2.1 a.2.2.2.2.2.1 a.2.2.2.2.2.2.1 a.2.2.2.2.2.2.2.1 a.2.2.2.2.2.2.2.2.1 a.2.2.2.2.2.2.2.2.2.1 a.2.2.2.2.2.2.2.2.2.2.1 a.2.2.2.2.2.2.2.2.2.2.2) _
    unfold fX12_bestRadius_b19
    rw [(show ((3 : Int)).toNat = 3 from rfl), i2]
    refine Ok.ltp (by omega) (Ok.gd (by omega) ?_)
    refine mtrial_ok (hs.set (k := 0) (by omega)) (hv0 i (by omega)) hN (fun r4 r5 h5 => ?_)
    have hfi := hfb i (by omega)
    rw [← h5] at hfi
    rcases i1 with y | y
    · refine Ok.eqp y.2 (ih (_, _, _, _, _, _, _, _, _, _, _, _) ⟨Or.inr ⟨by omega, ?_⟩, fun x => uZ_uZ _ _ _ _⟩)
      show ((i : Int), r5) = _
      rw [h5, y.1]; rfl
    · obtain ⟨n, rfl⟩ : ∃ n, i = n + 1 := ⟨i - 1, by omega⟩
      have y2 := y.2
      rw [show n + 1 - 1 = n by omega] at y2
      have hb := hbr n (by omega)
      rw [← y2] at hb
      have hb2 : 0 ≤ a.1 ∧ a.1 ≤ n ∧ 0 ≤ a.2.1 ∧ a.2.1 ≤ 24576 := hb
      refine Ok.eqn (by omega) (Ok.lt (by omega) (fun z => ih (_, _, _, _, _, _, _, _, _, _, _, _) ⟨Or.inr ⟨by omega, ?_⟩, fun x => uZ_uZ _ _ _ _⟩) (fun z => ih (_, _, _, _, _, _, _, _, _, _, _, _) ⟨Or.inr ⟨by omega, ?_⟩, fun x => uZ_uZ _ _ _ _⟩))
      · show (((n + 1 : Nat) : Int), r5) = brS _ (n + 1)
        rw [brS_succ, ← y2, if_pos (by rw [← h5]; exact z), h5]; rfl
      · show (a.1, a.2.1) = brS _ (n + 1)
        rw [brS_succ, ← y2, if_neg (by rw [← h5]; show ¬ r5 < a.2.1; omega)]
  · intro m a hI
    obtain ⟨i1, i2⟩ := hI
    show Ok (fX12_bestRadius_b19 N _ _ (s 3) a.1 a.2.1 ((4 : Nat) : Int) 0 a.2.2.1 a.2.2.2.1 a.2.2.2.2.1 a.2.2.2.2.2.1 a.2.2.2.2.2.2.1 a.2.2.2.2.2.2.2.1 a.2.2.2.2.2.2.2.2.1 a.2.2.2.2.2.2.2.2.2.1 a.2.2.2.2.2.2.2.2.2.2.1 a.2.2.2.2.2.2.2.2.2.2.2) _
    unfold fX12_bestRadius_b19 fX12_bestRadius_j73
    rw [(show ((3 : Int)).toNat = 3 from rfl)]
    refine Ok.ltn (by omega) (Ok.gd (by omega) (Ok.ret ⟨?_, (i2 (s 3)).trans (uZ_self s 3)⟩))
    rcases i1 with z | z
    · exfalso; omega
    · show a.1 = _
      rw [← show brS (fun i => FLK d cu sk (uZ se 0 (i : Int)) we W H F) (4 - 1) = brS (fun i => FLK d cu sk (uZ se 0 (i : Int)) we W H F) 3 from rfl, ← z.2]
theorem best_j {N : Nat} {d cu sk se we : Nat → Int} {W H F : Nat} {w2 h2 f2 : Int} {d2 cu2 sk2 se2 we2 : Nat → Int} {lk en many sz : Int} {c so fo su tg tb dt ac ar no og tc : Nat → Int} {th wm : Int} {me mc be mt mb mo ec ev : Nat → Int} {s : Nat → Int} (hs : SR s d cu sk se we W H F) (hv : FV d cu sk se we W H F) (hN : 400 < N) : Ok (fX11_bestRadius N W H F d cu sk se we w2 h2 f2 d2 cu2 sk2 se2 we2 lk en c many so fo su tg tb dt sz ac ar no og tc) (fun r => Ok (fX12_bestRadius N th wm s me mc be mt mb mo ec ev) (fun q => r.1 = q.1 ∧ q.2.2.2.1 = s)) := by
  unfold fX11_bestRadius
  refine Ok.bind (beginTrial_ok hv) (fun r1 h1 => ?_)
  obtain ⟨w', h', f', d', cu', sk', se', we', l', e'⟩ := r1
  have g1 : w' = (W : Int) := h1.1
  have g2 : h' = (H : Int) := h1.2.1
  have g3 : f' = (F : Int) := h1.2.2.1
  have g4 : FQ d cu sk se we d' cu' sk' se' we' W H F := h1.2.2.2.1
  have g5 : l' = 0 := h1.2.2.2.2.1
  subst g1 g2 g3
  refine Ok.mono (cbest (d := d') (cu := cu') (sk := sk') (se := se') (we := we') (l', e', c, many, so, fo, su, tg, tb, dt, sz, ac, ar, no, og, tc) (hv.eq g4) hN g5) (fun r hr => ?_)
  exact Ok.mono (mbest (hs.eq g4) (hv.eq g4) hN) (fun q hq => ⟨by rw [hr, hq.1], hq.2⟩)
end PM
