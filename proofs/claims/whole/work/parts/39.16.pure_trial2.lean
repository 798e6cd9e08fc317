/-! Trials, second part: the least step, rounds, settling; lost. -/
section PN
noncomputable def lpS (f : Nat → Int) (x : Int) : Int := ivS (fun n => if f n ≤ x then 1 else 0) 1
theorem lp_at {f : Nat → Int} {x : Int} {i : Nat} (hi : i < 16) (h : ∀ y, y < i → ¬ f y ≤ x) (h2 : f i ≤ x) : lpS f x = (i : Int) := by
  unfold lpS ivS
  rw [lsF_eq (w := i) (by omega) (fun y hy => by rw [if_neg (h y hy)]; omega) (fun _ => by rw [if_pos h2]; omega), if_pos hi]
theorem lp_none {f : Nat → Int} {x : Int} (h : ∀ y, y < 16 → ¬ f y ≤ x) : lpS f x = -1 := by
  unfold lpS ivS
  rw [lsF_eq (w := 16) (by omega) (fun y hy => by rw [if_neg (h y hy)]; omega) (fun z => by omega), if_neg (by omega)]
theorem cstep {N : Nat} {d cu sk se we : Nat → Int} {W H F : Nat} {d0 cu0 sk0 se0 we0 : Nat → Int} {x1 : Int} (q : EvTy) (hv : FV d cu sk se we W H F) (hN : 400 < N) (hl : q.1 = 0) (hx1 : 0 ≤ x1 ∧ x1 < 2147483648) : Ok (fX11_leastStep_L13 N W H F d0 cu0 sk0 se0 we0 x1 (fX11_leastStep_j40 N W H F d0 cu0 sk0 se0 we0 x1) N 0 W H F d cu sk se we q.1 q.2.1 q.2.2.1 q.2.2.2.1 q.2.2.2.2.1 q.2.2.2.2.2.1 q.2.2.2.2.2.2.1 q.2.2.2.2.2.2.2.1 q.2.2.2.2.2.2.2.2.1 q.2.2.2.2.2.2.2.2.2.1 q.2.2.2.2.2.2.2.2.2.2.1 q.2.2.2.2.2.2.2.2.2.2.2.1 q.2.2.2.2.2.2.2.2.2.2.2.2.1 q.2.2.2.2.2.2.2.2.2.2.2.2.2.1 q.2.2.2.2.2.2.2.2.2.2.2.2.2.2.1 q.2.2.2.2.2.2.2.2.2.2.2.2.2.2.2) (fun r => r.1 = lpS (fun i => FLK d cu sk (uZ se 3 (i : Int)) we W H F) x1) := by
  have hv0 : ∀ i : Nat, i ≤ 15 → FV d cu sk (uZ se 3 (i : Int)) we W H F := fun i hi => hv.set ⟨by omega, by show (i : Int) ≤ 15; omega, fun z => by omega, fun z => by omega⟩
  refine Ok.loop (fun m i (a : (Nat → Int) × EvTy) => fX11_leastStep_L13 N W H F d0 cu0 sk0 se0 we0 x1 (fX11_leastStep_j40 N W H F d0 cu0 sk0 se0 we0 x1) m (i : Int) W H F d cu sk a.1 we a.2.1 a.2.2.1 a.2.2.2.1 a.2.2.2.2.1 a.2.2.2.2.2.1 a.2.2.2.2.2.2.1 a.2.2.2.2.2.2.2.1 a.2.2.2.2.2.2.2.2.1 a.2.2.2.2.2.2.2.2.2.1 a.2.2.2.2.2.2.2.2.2.2.1 a.2.2.2.2.2.2.2.2.2.2.2.1 a.2.2.2.2.2.2.2.2.2.2.2.2.1 a.2.2.2.2.2.2.2.2.2.2.2.2.2.1 a.2.2.2.2.2.2.2.2.2.2.2.2.2.2.1 a.2.2.2.2.2.2.2.2.2.2.2.2.2.2.2.1 a.2.2.2.2.2.2.2.2.2.2.2.2.2.2.2.2) 16 (fun i a => (∀ y, y < i → ¬ FLK d cu sk (uZ se 3 (y : Int)) we W H F ≤ x1) ∧ (∀ x, uZ a.1 3 x = uZ se 3 x) ∧ LkI d cu sk se we W H F a.2.1 a.2.2.2.1 a.2.2.2.2.1 a.2.2.2.2.2.1 a.2.2.2.2.2.2.1) _ ?_ ?_ N 0 (se, q) (by omega) (by omega) ⟨fun y hy => by omega, fun x => rfl, Or.inl hl⟩
  · intro m i a hi hI ih
    obtain ⟨i1, i2, i3⟩ := hI
    show Ok (fX11_leastStep_b13 N W H F d0 cu0 sk0 se0 we0 x1 _ _ (i : Int) W H F d cu sk a.1 we a.2.1 a.2.2.1 a.2.2.2.1 a.2.2.2.2.1 a.2.2.2.2.2.1 a.2.2.2.2.2.2.1 a.2.2.2.2.2.2.2.1 a.2.2.2.2.2.2.2.2.1 a.2.2.2.2.2.2.2.2.2.1 a.2.2.2.2.2.2.2.2.2.2.1 a.2.2.2.2.2.2.2.2.2.2.2.1 a.2.2.2.2.2.2.2.2.2.2.2.2.1 a.2.2.2.2.2.2.2.2.2.2.2.2.2.1 a.2.2.2.2.2.2.2.2.2.2.2.2.2.2.1 a.2.2.2.2.2.2.2.2.2.2.2.2.2.2.2.1 a.2.2.2.2.2.2.2.2.2.2.2.2.2.2.2.2) _
    unfold fX11_leastStep_b13
    have hh : hsZ 3 = 15 := rfl
    rw [(show ((3 : Int)).toNat = 3 from rfl), hh]
    refine Ok.gd (by omega) (Ok.ltn (by omega) ?_)
    have e4 : ∀ x, uZ se 3 x 4 = se 4 := fun x => uZ_ne (by omega)
    have hl2 : LkI d cu sk (uZ a.1 3 (i : Int)) we W H F a.2.1 a.2.2.2.1 a.2.2.2.2.1 a.2.2.2.2.2.1 a.2.2.2.2.2.2.1 := by
      rw [i2]
      rcases i3 with z | z
      · exact Or.inl z
      · exact Or.inr ⟨z.1, z.2.se4 (e4 _).symm⟩
    refine Ok.bind (trialFlicker_ok (k := 3) (by omega) (by rw [i2]; exact hv0 i (by omega)) hN hl2) (fun r4 h4 => ?_)
    obtain ⟨h4a, h4b, h4c, h4d⟩ := h4
    rw [i2] at h4a h4b h4d
    have hfi := (hv0 i (by omega)).flk_b
    rw [← h4a] at hfi
    refine Ok.lt (by omega) (fun z => ih (_, r4.2.2) ⟨fun y hy => ?_, fun x => ?_, Or.inr ⟨h4c, h4d.se4 (e4 _)⟩⟩) (fun z => Ok.ret ?_)
    · by_cases w : y = i
      · rw [w, ← h4a]; omega
      · exact i1 y (by omega)
    · show uZ r4.2.1 3 x = _
      rw [h4b, uZ_uZ]
    · exact (lp_at hi i1 (by rw [← h4a]; exact z)).symm
  · intro m a hI
    obtain ⟨i1, i2, i3⟩ := hI
    show Ok (fX11_leastStep_b13 N W H F d0 cu0 sk0 se0 we0 x1 _ _ ((16 : Nat) : Int) W H F d cu sk a.1 we a.2.1 a.2.2.1 a.2.2.2.1 a.2.2.2.2.1 a.2.2.2.2.2.1 a.2.2.2.2.2.2.1 a.2.2.2.2.2.2.2.1 a.2.2.2.2.2.2.2.2.1 a.2.2.2.2.2.2.2.2.2.1 a.2.2.2.2.2.2.2.2.2.2.1 a.2.2.2.2.2.2.2.2.2.2.2.1 a.2.2.2.2.2.2.2.2.2.2.2.2.1 a.2.2.2.2.2.2.2.2.2.2.2.2.2.1 a.2.2.2.2.2.2.2.2.2.2.2.2.2.2.1 a.2.2.2.2.2.2.2.2.2.2.2.2.2.2.2.1 a.2.2.2.2.2.2.2.2.2.2.2.2.2.2.2.2) _
    unfold fX11_leastStep_b13 fX11_leastStep_j40
    have hh : hsZ 3 = 15 := rfl
    rw [(show ((3 : Int)).toNat = 3 from rfl), hh]
    exact Ok.gd (by omega) (Ok.ltp (by omega) (Ok.ret (lp_none i1).symm))
theorem mstep {N : Nat} {d cu sk se we : Nat → Int} {W H F : Nat} {th wm : Int} {me mc be mt mb mo ec ev : Nat → Int} {s : Nat → Int} {x1 : Int} (hs : SR s d cu sk se we W H F) (hv : FV d cu sk se we W H F) (hN : 400 < N) (hx1 : 0 ≤ x1 ∧ x1 < 2147483648) : Ok (fX12_leastStep_L25 N x1 (fX12_leastStep_j71 N x1) N (s 6) (-1) 0 th wm s me mc be mt mb mo ec ev) (fun r => r.1 = lpS (fun i => FLK d cu sk (uZ se 3 (i : Int)) we W H F) x1 ∧ r.2.2.2.1 = s) := by
  have hv0 : ∀ i : Nat, i ≤ 15 → FV d cu sk (uZ se 3 (i : Int)) we W H F := fun i hi => hv.set ⟨by omega, by show (i : Int) ≤ 15; omega, fun z => by omega, fun z => by omega⟩
  refine Ok.loop (fun m i (a : Int × Int × (Nat → Int) × (Nat → Int) × (Nat → Int) × (Nat → Int) × (Nat → Int) × (Nat → Int) × (Nat → Int) × (Nat → Int) × (Nat → Int)) => fX12_leastStep_L25 N x1 (fX12_leastStep_j71 N x1) m (s 6) a.1 (i : Int) th a.2.1 a.2.2.1 a.2.2.2.1 a.2.2.2.2.1 a.2.2.2.2.2.1 a.2.2.2.2.2.2.1 a.2.2.2.2.2.2.2.1 a.2.2.2.2.2.2.2.2.1 a.2.2.2.2.2.2.2.2.2.1 a.2.2.2.2.2.2.2.2.2.2) 16 (fun i a => ((a.1 = -1 ∧ ∀ y, y < i → ¬ FLK d cu sk (uZ se 3 (y : Int)) we W H F ≤ x1) ∨ (0 ≤ a.1 ∧ a.1 < 16 ∧ a.1 = lpS (fun i => FLK d cu sk (uZ se 3 (i : Int)) we W H F) x1)) ∧ ∀ x, uZ a.2.2.1 6 x = uZ s 6 x) _ ?_ ?_ N 0 (-1, wm, s, me, mc, be, mt, mb, mo, ec, ev) (by omega) (by omega) ⟨Or.inl ⟨rfl, fun y hy => by omega⟩, fun x => rfl⟩
  · intro m i a hi hI ih
    obtain ⟨i1, i2⟩ := hI
    show Ok (fX12_leastStep_b25 N x1 _ _ (s 6) a.1 (i : Int) th a.2.1 a.2.2.1 a.2.2.2.1 a.2.2.2.2.1 a.2.2.2.2.2.1 a.2.2.2.2.2.2.1 a.2.2.2.2.2.2.2.1 a.2.2.2.2.2.2.2.2.1 a.2.2.2.2.2.2.2.2.2.1 a.2.2.2.2.2.2.2.2.2.2) _
    unfold fX12_leastStep_b25
    refine Ok.ltp (by omega) ?_
    rcases i1 with ⟨y1, y2⟩ | ⟨y1, y2, y3⟩
    · rw [(show ((6 : Int)).toNat = 6 from rfl), i2]
      refine Ok.eqp y1 (Ok.gd (by omega) ?_)
      refine mtrial_ok (hs.set (k := 3) (by omega)) (hv0 i (by omega)) hN (fun r4 r5 h5 => ?_)
      have hfi := (hv0 i (by omega)).flk_b
      rw [← h5] at hfi
      refine Ok.lt (by omega) (fun z => ih (a.1, r4.1, uZ s 6 (i : Int), r4.2.1, r4.2.2.1, r4.2.2.2.1, r4.2.2.2.2.1, r4.2.2.2.2.2.1, r4.2.2.2.2.2.2.1, r4.2.2.2.2.2.2.2.1, r4.2.2.2.2.2.2.2.2) ⟨Or.inl ⟨y1, fun y hy => ?_⟩, fun x => uZ_uZ _ _ _ _⟩) (fun z => ih ((i : Int), r4.1, uZ s 6 (i : Int), r4.2.1, r4.2.2.1, r4.2.2.2.1, r4.2.2.2.2.1, r4.2.2.2.2.2.1, r4.2.2.2.2.2.2.1, r4.2.2.2.2.2.2.2.1, r4.2.2.2.2.2.2.2.2) ⟨Or.inr ⟨?_, ?_, ?_⟩, fun x => uZ_uZ _ _ _ _⟩)
      · by_cases w : y = i
        · rw [w, ← h5]; omega
        · exact y2 y (by omega)
      · show 0 ≤ (i : Int); omega
      · show (i : Int) < 16; omega
      · exact (lp_at hi y2 (by rw [← h5]; exact z)).symm
    · refine Ok.eqn (by omega) ?_
      unfold fX12_leastStep_j71
      rw [(show ((6 : Int)).toNat = 6 from rfl)]
      exact Ok.gd (by omega) (Ok.ret ⟨y3, (i2 (s 6)).trans (uZ_self s 6)⟩)
  · intro m a hI
    obtain ⟨i1, i2⟩ := hI
    show Ok (fX12_leastStep_b25 N x1 _ _ (s 6) a.1 ((16 : Nat) : Int) th a.2.1 a.2.2.1 a.2.2.2.1 a.2.2.2.2.1 a.2.2.2.2.2.1 a.2.2.2.2.2.2.1 a.2.2.2.2.2.2.2.1 a.2.2.2.2.2.2.2.2.1 a.2.2.2.2.2.2.2.2.2.1 a.2.2.2.2.2.2.2.2.2.2) _
    unfold fX12_leastStep_b25 fX12_leastStep_j71
    rw [(show ((6 : Int)).toNat = 6 from rfl)]
    refine Ok.ltn (by omega) (Ok.gd (by omega) (Ok.ret ⟨?_, (i2 (s 6)).trans (uZ_self s 6)⟩))
    rcases i1 with ⟨y1, y2⟩ | ⟨y1, y2, y3⟩
    · rw [lp_none y2]; exact y1
    · exact y3
theorem step_j {N : Nat} {d cu sk se we : Nat → Int} {W H F : Nat} {w2 h2 f2 : Int} {d2 cu2 sk2 se2 we2 : Nat → Int} {lk en many sz : Int} {c so fo su tg tb dt ac ar no og tc : Nat → Int} {th wm : Int} {me mc be mt mb mo ec ev : Nat → Int} {s : Nat → Int} {x1 : Int} (hs : SR s d cu sk se we W H F) (hv : FV d cu sk se we W H F) (hN : 400 < N) (hx1 : -2147483648 ≤ x1 ∧ x1 < 2147483648) : Ok (fX11_leastStep N W H F d cu sk se we w2 h2 f2 d2 cu2 sk2 se2 we2 lk en c many so fo su tg tb dt sz ac ar no og tc x1) (fun r => Ok (fX12_leastStep N th wm s me mc be mt mb mo ec ev x1) (fun q => r.1 = q.1 ∧ q.2.2.2.1 = s)) := by
  unfold fX11_leastStep fX12_leastStep
  refine Ok.lt (by omega) (fun z => Ok.ret (Ok.ltp (by omega) (Ok.ret ⟨rfl, rfl⟩))) (fun z => ?_)
  refine Ok.bind (beginTrial_ok hv) (fun r1 h1 => ?_)
  obtain ⟨w', h', f', d', cu', sk', se', we', l', e'⟩ := r1
  have g1 : w' = (W : Int) := h1.1
  have g2 : h' = (H : Int) := h1.2.1
  have g3 : f' = (F : Int) := h1.2.2.1
  have g4 : FQ d cu sk se we d' cu' sk' se' we' W H F := h1.2.2.2.1
  have g5 : l' = 0 := h1.2.2.2.2.1
  subst g1 g2 g3
  refine Ok.mono (cstep (d := d') (cu := cu') (sk := sk') (se := se') (we := we') (l', e', c, many, so, fo, su, tg, tb, dt, sz, ac, ar, no, og, tc) (hv.eq g4) hN g5 (by omega)) (fun r hr => Ok.ltn (by omega) ?_)
  rw [(show ((6 : Int)).toNat = 6 from rfl)]
  exact Ok.gd (by omega) (Ok.mono (mstep (hs.eq g4) (hv.eq g4) hN (by omega)) (fun q hq => ⟨by rw [hr, hq.1], hq.2⟩))
/-! rounds, settling -/
noncomputable def CG (d cu sk se we : Nat → Int) (W H F : Nat) : Int := sI (chS d (EV d cu sk se we W H F) (W * H)) F
theorem FV.cg_b {d cu sk se we : Nat → Int} {W H F : Nat} (hv : FV d cu sk se we W H F) : 0 ≤ CG d cu sk se we W H F ∧ CG d cu sk se we W H F ≤ 1536 := by
  have hS := size_b hv.1 hv.2.1
  have hF := hv.2.2.1
  have := sI_bound (f := chS d (EV d cu sk se we W H F) (W * H)) (c := 64) (n := F) (fun k _ => by have := chS_b d (EV d cu sk se we W H F) (W * H) k; omega)
  unfold CG
  omega
theorem sI_all0 {f : Nat → Int} : ∀ {n : Nat}, (∀ k, k < n → 0 ≤ f k) → sI f n = 0 → ∀ k, k < n → f k = 0
  | 0, _, _, k, hk => by omega
  | n + 1, h, h0, k, hk => by
    have hb : 0 ≤ sI f n := by
      have := sI_le (f := fun _ => 0) (g := f) (n := n) (fun k hk => h k (by omega))
      rw [sI_zero (fun _ _ => rfl)] at this; exact this
    have hn := h n (by omega)
    rw [sI_succ] at h0
    by_cases q : k = n
    · rw [q]; omega
    · exact sI_all0 (n := n) (fun k hk => h k (by omega)) (by omega) k (by omega)
theorem CG_0 {d cu sk se we : Nat → Int} {W H F : Nat} (h : CG d cu sk se we W H F = 0) : ∀ t p, t < F → p < W * H → EV d cu sk se we W H F (64 * t + p) = d (64 * t + p) := fun t p ht hp => chS_0 (sI_all0 (fun k _ => (chS_b _ _ _ _).1) h t ht) p hp
theorem takeTrial_ok {N : Nat} {d cu sk se we : Nat → Int} {W H F : Nat} {lk en many sz : Int} {c so fo su tg tb dt ac ar no og tc : Nat → Int} (hv : FV d cu sk se we W H F) (hN : 400 < N) (hl : lk = 0) (he : en = 0) : Ok (fX11_takeInTrial N W H F cu se sk we lk en c d many so fo su tg tb dt sz ac ar no og tc) (fun r => r.1 = CG d cu sk se we W H F ∧ r.2.1 = 0 ∧ r.2.2.1 = 0 ∧ ∀ t p, t < F → p < W * H → EV d cu sk se we W H F (64 * t + p) = r.2.2.2.2.1 (64 * t + p)) := by
  have hF := hv.2.2.1
  have hS := size_b hv.1 hv.2.1
  unfold fX11_takeInTrial fX1_forget
  refine Ok.bind (even_ok hv hN (Or.inl hl) (Or.inl he)) (fun r1 h1 => ?_)
  refine Ok.bind (changedDots_ok hS.2 hF hv.2.2.2.1 (h1.2.2.2.db hv) (by omega)) (fun r2 h2 => Ok.bind (copyDots_ok hF) (fun r3 h3 => ?_))
  refine Ok.bind (Ok.ret (P := fun r => r = (0, 0)) rfl) (fun r4 h4 => by
    subst h4
    refine Ok.ret ⟨?_, rfl, rfl, fun t p ht hp => ?_⟩
    · show r2 = _
      rw [h2]
      exact sI_cong (fun t ht => chS_cong (fun _ _ => rfl) (fun p hp => h1.2.2.2.2.2.1 t p ht hp))
    · show _ = r3 _
      rw [h3 _ (by omega)]; exact (h1.2.2.2.2.2.1 t p ht hp).symm)
/-- takes one after another -/
def ChR (cu sk se we : Nat → Int) (W H F : Nat) (x : Nat → Nat → Int) (i : Nat) : Prop := FV (x 0) cu sk se we W H F ∧ ∀ k, k < i → ∀ t p, t < F → p < W * H → EV (x k) cu sk se we W H F (64 * t + p) = x (k + 1) (64 * t + p)
theorem ChR.fv {cu sk se we : Nat → Int} {W H F : Nat} {x : Nat → Nat → Int} {i : Nat} (h : ChR cu sk se we W H F x i) : ∀ k, k ≤ i → FV (x k) cu sk se we W H F := by
  intro k
  induction k with
  | zero => intro _; exact h.1
  | succ k ih => intro hk; exact (ih (by omega)).EV_v.cong (h.2 k (by omega))
theorem ChR.ext {cu sk se we : Nat → Int} {W H F : Nat} {x : Nat → Nat → Int} {i : Nat} {y : Nat → Int} (h : ChR cu sk se we W H F x i) (hy : ∀ t p, t < F → p < W * H → EV (x i) cu sk se we W H F (64 * t + p) = y (64 * t + p)) : ∃ x' : Nat → Nat → Int, ChR cu sk se we W H F x' (i + 1) ∧ (∀ k, k ≤ i → x' k = x k) ∧ x' (i + 1) = y := by
  refine ⟨fun k => if k ≤ i then x k else y, ⟨?_, fun k hk t p ht hp => ?_⟩, fun k hk => if_pos hk, if_neg (by omega)⟩
  · show FV (if 0 ≤ i then x 0 else y) cu sk se we W H F
    rw [if_pos (by omega)]; exact h.1
  · show EV (if k ≤ i then x k else y) cu sk se we W H F (64 * t + p) = (if k + 1 ≤ i then x (k + 1) else y) (64 * t + p)
    rw [if_pos (by omega)]
    by_cases q : k + 1 ≤ i
    · rw [if_pos q]; exact h.2 k (by omega) t p ht hp
    · rw [if_neg q, show k = i by omega]; exact hy t p ht hp
theorem flk_cong {d d' cu se : Nat → Int} {S F : Nat} (hF : F ≤ 24) (h : ∀ t p, t < F → p < S → d (64 * t + p) = d' (64 * t + p)) : flS (BS d cu se S) (CU d S) (F - 1) = flS (BS d' cu se S) (CU d' S) (F - 1) := by
  have hC : CR (CU d' S) F (CU d S) := fun t v ht hv => by rw [CU_at _ _ _ _ hv, CU_at _ _ _ _ hv]; exact cumS_cong (fun p hp => h t p ht hp)
  refine sI_cong (fun k hk => ?_)
  have hb : BS d cu se S (k + 1) = BS d' cu se S (k + 1) := by
    have hb := begP_cong (cu := cu) (bo := se 4) (c := CU d S) (c' := CU d' S) (t := k + 1) (fun u v hu hv => hC u v (by omega) hv)
    show begB cu (se 4) (CU d S) (k + 1) = begB cu (se 4) (CU d' S) (k + 1)
    rcases begP_dec cu (se 4) (CU d S) (k + 1) with z | z
    · rw [begB_t.mpr z, begB_t.mpr (hb.mp z)]
    · rw [begB_f.mpr z, begB_f.mpr (fun z2 => z (hb.mpr z2))]
  rw [hb, hC.gap (by omega) (by omega)]
/-- what rounds come to: the chain, up to n or to where nothing changes -/
def RdP (d cu sk se we : Nat → Int) (W H F n : Nat) (a : Int) : Prop := ∃ (x : Nat → Nat → Int) (m : Nat), x 0 = d ∧ ChR cu sk se we W H F x m ∧ m ≤ n ∧ (m = n ∨ CG (x m) cu sk se we W H F = 0) ∧ a = flS (BS (x m) cu se (W * H)) (CU (x m) (W * H)) (F - 1)
theorem crounds {N n : Nat} {d cu sk se we : Nat → Int} {W H F : Nat} {d0 cu0 sk0 se0 we0 : Nat → Int} (q : EvTy) (hv : FV d cu sk se we W H F) (hN : 400 < N) (hl : q.1 = 0) (he : q.2.1 = 0) (hn : n ≤ 10) : Ok (fX11_rounds_L19 N W H F d0 cu0 sk0 se0 we0 n (fX11_rounds_j40 N W H F d0 cu0 sk0 se0 we0 n) N 0 W H F d cu sk se we q.1 q.2.1 q.2.2.1 q.2.2.2.1 q.2.2.2.2.1 q.2.2.2.2.2.1 q.2.2.2.2.2.2.1 q.2.2.2.2.2.2.2.1 q.2.2.2.2.2.2.2.2.1 q.2.2.2.2.2.2.2.2.2.1 q.2.2.2.2.2.2.2.2.2.2.1 q.2.2.2.2.2.2.2.2.2.2.2.1 q.2.2.2.2.2.2.2.2.2.2.2.2.1 q.2.2.2.2.2.2.2.2.2.2.2.2.2.1 q.2.2.2.2.2.2.2.2.2.2.2.2.2.2.1 q.2.2.2.2.2.2.2.2.2.2.2.2.2.2.2) (fun r => RdP d cu sk se we W H F n r.1) := by
  have hF := hv.2.2.1
  have hS := size_b hv.1 hv.2.1
  have fin : ∀ (x : Nat → Nat → Int) (m k : Nat) (b : Nat → Int) (e : EvTy), x 0 = d → ChR cu sk se we W H F x m → m ≤ n → (m = n ∨ CG (x m) cu sk se we W H F = 0) → FV b cu sk se we W H F → (∀ t p, t < F → p < W * H → b (64 * t + p) = x m (64 * t + p)) → e.1 = 0 → Ok (fX11_rounds_j40 N W H F d0 cu0 sk0 se0 we0 n W H F b cu sk se we e.1 e.2.1 e.2.2.1 e.2.2.2.1 e.2.2.2.2.1 e.2.2.2.2.2.1 e.2.2.2.2.2.2.1 e.2.2.2.2.2.2.2.1 e.2.2.2.2.2.2.2.2.1 e.2.2.2.2.2.2.2.2.2.1 e.2.2.2.2.2.2.2.2.2.2.1 e.2.2.2.2.2.2.2.2.2.2.2.1 e.2.2.2.2.2.2.2.2.2.2.2.2.1 e.2.2.2.2.2.2.2.2.2.2.2.2.2.1 e.2.2.2.2.2.2.2.2.2.2.2.2.2.2.1 e.2.2.2.2.2.2.2.2.2.2.2.2.2.2.2) (fun r => RdP d cu sk se we W H F n r.1) := by
    intro x m k b e h1 h2 h3 h4 h5 h6 h7
    unfold fX11_rounds_j40
    refine Ok.bind (look_ok h5 hN (Or.inl h7)) (fun r7 h8 => ?_)
    refine Ok.bind (flickerOf_ok h8.2.2.2 (BS_0 _ _ _ _) hF h8.2.1 (CU_b hS.2) h8.2.2.1 (by omega)) (fun r8 h9 => Ok.ret ⟨x, m, h1, h2, h3, h4, ?_⟩)
    rw [← flk_cong hF h6]; exact h9
  refine Ok.loop (fun m i (a : (Nat → Int) × EvTy) => fX11_rounds_L19 N W H F d0 cu0 sk0 se0 we0 n (fX11_rounds_j40 N W H F d0 cu0 sk0 se0 we0 n) m (i : Int) W H F a.1 cu sk se we a.2.1 a.2.2.1 a.2.2.2.1 a.2.2.2.2.1 a.2.2.2.2.2.1 a.2.2.2.2.2.2.1 a.2.2.2.2.2.2.2.1 a.2.2.2.2.2.2.2.2.1 a.2.2.2.2.2.2.2.2.2.1 a.2.2.2.2.2.2.2.2.2.2.1 a.2.2.2.2.2.2.2.2.2.2.2.1 a.2.2.2.2.2.2.2.2.2.2.2.2.1 a.2.2.2.2.2.2.2.2.2.2.2.2.2.1 a.2.2.2.2.2.2.2.2.2.2.2.2.2.2.1 a.2.2.2.2.2.2.2.2.2.2.2.2.2.2.2.1 a.2.2.2.2.2.2.2.2.2.2.2.2.2.2.2.2) n (fun i a => a.2.1 = 0 ∧ a.2.2.1 = 0 ∧ ∃ x : Nat → Nat → Int, x 0 = d ∧ ChR cu sk se we W H F x i ∧ x i = a.1) _ ?_ ?_ N 0 (d, q) (by omega) (by omega) ⟨hl, he, fun _ => d, rfl, ⟨hv, fun k hk => by omega⟩, rfl⟩
  · intro m i a hi hI ih
    obtain ⟨i1, i2, x, i3, i4, i5⟩ := hI
    show Ok (fX11_rounds_b19 N W H F d0 cu0 sk0 se0 we0 n _ _ (i : Int) W H F a.1 cu sk se we a.2.1 a.2.2.1 a.2.2.2.1 a.2.2.2.2.1 a.2.2.2.2.2.1 a.2.2.2.2.2.2.1 a.2.2.2.2.2.2.2.1 a.2.2.2.2.2.2.2.2.1 a.2.2.2.2.2.2.2.2.2.1 a.2.2.2.2.2.2.2.2.2.2.1 a.2.2.2.2.2.2.2.2.2.2.2.1 a.2.2.2.2.2.2.2.2.2.2.2.2.1 a.2.2.2.2.2.2.2.2.2.2.2.2.2.1 a.2.2.2.2.2.2.2.2.2.2.2.2.2.2.1 a.2.2.2.2.2.2.2.2.2.2.2.2.2.2.2.1 a.2.2.2.2.2.2.2.2.2.2.2.2.2.2.2.2) _
    unfold fX11_rounds_b19
    have hvi : FV a.1 cu sk se we W H F := by rw [← i5]; exact i4.fv i (by omega)
    refine Ok.ltp (by omega) (Ok.bind (takeTrial_ok hvi hN i1 i2) (fun r5 h5 => ?_))
    obtain ⟨h5a, h5b, h5c, h5d⟩ := h5
    have hcb := hvi.cg_b
    refine Ok.eq (by omega) (fun z => ?_) (fun z => ?_)
    · refine fin x i 0 r5.2.2.2.2.1 (r5.2.1, r5.2.2.1, r5.2.2.2.1, r5.2.2.2.2.2.1, r5.2.2.2.2.2.2.1, r5.2.2.2.2.2.2.2.1, r5.2.2.2.2.2.2.2.2.1, r5.2.2.2.2.2.2.2.2.2.1, r5.2.2.2.2.2.2.2.2.2.2.1, r5.2.2.2.2.2.2.2.2.2.2.2.1, r5.2.2.2.2.2.2.2.2.2.2.2.2.1, r5.2.2.2.2.2.2.2.2.2.2.2.2.2.1, r5.2.2.2.2.2.2.2.2.2.2.2.2.2.2.1, r5.2.2.2.2.2.2.2.2.2.2.2.2.2.2.2.1, r5.2.2.2.2.2.2.2.2.2.2.2.2.2.2.2.2.1, r5.2.2.2.2.2.2.2.2.2.2.2.2.2.2.2.2.2) i3 i4 (by omega) (Or.inr (by rw [i5, ← h5a]; exact z)) (hvi.EV_v.cong h5d) (fun t p ht hp => ?_) h5b
      rw [← h5d t p ht hp, i5]
      exact CG_0 (by rw [← h5a]; exact z) t p ht hp
    · obtain ⟨x', c1, c2, c3⟩ := i4.ext (y := r5.2.2.2.2.1) (by rw [i5]; exact h5d)
      exact ih (r5.2.2.2.2.1, r5.2.1, r5.2.2.1, r5.2.2.2.1, r5.2.2.2.2.2.1, r5.2.2.2.2.2.2.1, r5.2.2.2.2.2.2.2.1, r5.2.2.2.2.2.2.2.2.1, r5.2.2.2.2.2.2.2.2.2.1, r5.2.2.2.2.2.2.2.2.2.2.1, r5.2.2.2.2.2.2.2.2.2.2.2.1, r5.2.2.2.2.2.2.2.2.2.2.2.2.1, r5.2.2.2.2.2.2.2.2.2.2.2.2.2.1, r5.2.2.2.2.2.2.2.2.2.2.2.2.2.2.1, r5.2.2.2.2.2.2.2.2.2.2.2.2.2.2.2.1, r5.2.2.2.2.2.2.2.2.2.2.2.2.2.2.2.2.1, r5.2.2.2.2.2.2.2.2.2.2.2.2.2.2.2.2.2) ⟨h5b, h5c, x', by rw [c2 0 (by omega)]; exact i3, c1, c3⟩
  · intro m a hI
    obtain ⟨i1, i2, x, i3, i4, i5⟩ := hI
    show Ok (fX11_rounds_b19 N W H F d0 cu0 sk0 se0 we0 n _ _ (n : Int) W H F a.1 cu sk se we a.2.1 a.2.2.1 a.2.2.2.1 a.2.2.2.2.1 a.2.2.2.2.2.1 a.2.2.2.2.2.2.1 a.2.2.2.2.2.2.2.1 a.2.2.2.2.2.2.2.2.1 a.2.2.2.2.2.2.2.2.2.1 a.2.2.2.2.2.2.2.2.2.2.1 a.2.2.2.2.2.2.2.2.2.2.2.1 a.2.2.2.2.2.2.2.2.2.2.2.2.1 a.2.2.2.2.2.2.2.2.2.2.2.2.2.1 a.2.2.2.2.2.2.2.2.2.2.2.2.2.2.1 a.2.2.2.2.2.2.2.2.2.2.2.2.2.2.2.1 a.2.2.2.2.2.2.2.2.2.2.2.2.2.2.2.2) _
    unfold fX11_rounds_b19
    have hvi : FV a.1 cu sk se we W H F := by rw [← i5]; exact i4.fv n (by omega)
    refine Ok.ltn (by omega) ?_
    exact fin x n 0 a.1 a.2 i3 i4 (by omega) (Or.inl rfl) hvi (fun t p _ _ => by rw [i5]) i1
theorem comesBack_ok {N : Nat} {s s0 : Nat → Int} (hN : 12000 < N) : Ok (fX12_comesBack N s0 s) (fun g => ∀ k, k < 1551 → g k = s0 k) := by
  unfold fX12_comesBack
  refine Ok.loop (fun m i g => fX12_comesBack_L2 N s0 (fX12_comesBack_j27 N s0) m (i : Int) g) 1551 (fun i g => ∀ k, k < i → g k = s0 k) _ ?_ ?_ N 0 s (by omega) (by omega) (fun k hk => by omega)
  · intro m i g hi hI ih
    show Ok (fX12_comesBack_b2 N s0 _ _ (i : Int) g) _
    unfold fX12_comesBack_b2
    rw [Int.toNat_natCast]
    repeat (first | refine Ok.gd (by omega) ?_ | refine Ok.ltp (by omega) ?_ | refine Ok.ltn (by omega) ?_ | refine Ok.eqp (by omega) ?_ | refine Ok.eqn (by omega) ?_)
    refine ih _ (fun k hk => ?_)
    by_cases q : k = i
    · rw [q, uZ_at]
    · rw [uZ_ne q]; exact hI k (by omega)
  · intro m g hI
    show Ok (fX12_comesBack_b2 N s0 _ _ ((1551 : Nat) : Int) g) _
    unfold fX12_comesBack_b2 fX12_comesBack_j27
    exact Ok.ltn (by omega) (Ok.ret hI)
theorem laysAside_ok {N : Nat} {s s0 : Nat → Int} (hN : 12000 < N) : Ok (fX12_laysAside N s0 s) (fun g => ∀ k, k < 1551 → g k = s0 k) := by
  unfold fX12_laysAside
  refine Ok.loop (fun m i g => fX12_laysAside_L2 N s0 (fX12_laysAside_j27 N s0) m (i : Int) g) 1551 (fun i g => ∀ k, k < i → g k = s0 k) _ ?_ ?_ N 0 s (by omega) (by omega) (fun k hk => by omega)
  · intro m i g hi hI ih
    show Ok (fX12_laysAside_b2 N s0 _ _ (i : Int) g) _
    unfold fX12_laysAside_b2
    rw [Int.toNat_natCast]
    repeat (first | refine Ok.gd (by omega) ?_ | refine Ok.ltp (by omega) ?_ | refine Ok.ltn (by omega) ?_ | refine Ok.eqp (by omega) ?_ | refine Ok.eqn (by omega) ?_)
    refine ih _ (fun k hk => ?_)
    by_cases q : k = i
    · rw [q, uZ_at]
    · rw [uZ_ne q]; exact hI k (by omega)
  · intro m g hI
    show Ok (fX12_laysAside_b2 N s0 _ _ ((1551 : Nat) : Int) g) _
    unfold fX12_laysAside_b2 fX12_laysAside_j27
    exact Ok.ltn (by omega) (Ok.ret hI)
theorem mrounds {N n : Nat} {d cu sk se we : Nat → Int} {W H F : Nat} {th wm : Int} {me mc be mt mb mo ec ev : Nat → Int} {s sv : Nat → Int} {x : Nat → Nat → Int} {k : Nat} (hN : 12000 < N) (hn : n ≤ 10) (hs : SR s (x 0) cu sk se we W H F) (hc : ChR cu sk se we W H F x k) (hk : k ≤ n) (h0 : k = n ∨ CG (x k) cu sk se we W H F = 0) : Ok (fX12_rounds_L26 N n (fX12_rounds_j42 N n) N 0 th wm s sv me mc be mt mb mo ec ev) (fun r => r.1 = flS (BS (x k) cu se (W * H)) (CU (x k) (W * H)) (F - 1) ∧ ∀ j, j < 1551 → r.2.2.2.1 j = sv j) := by
  have hv := hc.fv 0 (by omega)
  have hF := hv.2.2.1
  have hS := size_b hv.1 hv.2.1
  refine Ok.loop (fun m i (a : Int × (Nat → Int) × (Nat → Int) × (Nat → Int) × (Nat → Int) × (Nat → Int) × (Nat → Int) × (Nat → Int) × (Nat → Int) × (Nat → Int)) => fX12_rounds_L26 N n (fX12_rounds_j42 N n) m (i : Int) th a.1 a.2.1 sv a.2.2.1 a.2.2.2.1 a.2.2.2.2.1 a.2.2.2.2.2.1 a.2.2.2.2.2.2.1 a.2.2.2.2.2.2.2.1 a.2.2.2.2.2.2.2.2.1 a.2.2.2.2.2.2.2.2.2) n (fun i a => SR a.2.1 (x (if i < k then i else k)) cu sk se we W H F) _ ?_ ?_ N 0 (wm, s, me, mc, be, mt, mb, mo, ec, ev) (by omega) (by omega) (by
    by_cases q : 0 < k
    · rw [if_pos q]; exact hs
    · rw [if_neg q, show k = 0 by omega]; exact hs)
  · intro m i a hi hI ih
    show Ok (fX12_rounds_b26 N n _ _ (i : Int) th a.1 a.2.1 sv a.2.2.1 a.2.2.2.1 a.2.2.2.2.1 a.2.2.2.2.2.1 a.2.2.2.2.2.2.1 a.2.2.2.2.2.2.2.1 a.2.2.2.2.2.2.2.2.1 a.2.2.2.2.2.2.2.2.2) _
    unfold fX12_rounds_b26
    by_cases q : i < k
    · rw [if_pos q] at hI
      refine Ok.ltp (by omega) (Ok.bind (takes_ok hI (hc.fv i (by omega)) (by omega)) (fun r5 h5 => ih (_, _, _, _, _, _, _, _, _, _) ?_))
      have h6 := h5.2.cong (hc.2 i q)
      show SR r5.2.2.1 _ cu sk se we W H F
      by_cases q2 : i + 1 < k
      · rw [if_pos q2]; exact h6
      · rw [if_neg q2, show k = i + 1 by omega]; exact h6
    · rw [if_neg q] at hI
      have h0' : CG (x k) cu sk se we W H F = 0 := by
        rcases h0 with z | z
        · omega
        · exact z
      refine Ok.ltp (by omega) (Ok.bind (takes_ok hI (hc.fv k (by omega)) (by omega)) (fun r5 h5 => ih (_, _, _, _, _, _, _, _, _, _) ?_))
      show SR r5.2.2.1 _ cu sk se we W H F
      rw [if_neg (by omega)]
      exact h5.2.cong (CG_0 h0')
  · intro m a hI
    show Ok (fX12_rounds_b26 N n _ _ (n : Int) th a.1 a.2.1 sv a.2.2.1 a.2.2.2.1 a.2.2.2.2.1 a.2.2.2.2.2.1 a.2.2.2.2.2.2.1 a.2.2.2.2.2.2.2.1 a.2.2.2.2.2.2.2.2.1 a.2.2.2.2.2.2.2.2.2) _
    unfold fX12_rounds_b26 fX12_rounds_j42
    rw [if_neg (by omega)] at hI
    refine Ok.ltn (by omega) (Ok.bind (mlays_ok hI (hc.fv k (by omega)) (by omega)) (fun r6 h6 => ?_))
    refine Ok.bind (flickerBy_ok h6.2.2 hI.2.2.1 hF h6.2.1 (CU_b hS.2) (by omega)) (fun r7 h7 => Ok.bind (comesBack_ok hN) (fun r8 h8 => Ok.ret ⟨h7, h8⟩))
theorem rounds_j {N : Nat} {d cu sk se we : Nat → Int} {W H F : Nat} {w2 h2 f2 : Int} {d2 cu2 sk2 se2 we2 : Nat → Int} {lk en many sz : Int} {c so fo su tg tb dt ac ar no og tc : Nat → Int} {th wm : Int} {me mc be mt mb mo ec ev : Nat → Int} {s sv : Nat → Int} {x1 : Int} (hs : SR s d cu sk se we W H F) (hv : FV d cu sk se we W H F) (hN : 12000 < N) (hx1 : -2147483648 ≤ x1 ∧ x1 < 2147483648) : Ok (fX11_rounds N W H F d cu sk se we w2 h2 f2 d2 cu2 sk2 se2 we2 lk en c many so fo su tg tb dt sz ac ar no og tc x1) (fun r => Ok (fX12_rounds N th wm s sv me mc be mt mb mo ec ev x1) (fun q => r.1 = q.1 ∧ SR q.2.2.2.1 d cu sk se we W H F)) := by
  have hF := hv.2.2.1
  have hS := size_b hv.1 hv.2.1
  unfold fX11_rounds fX12_rounds
  by_cases f : 0 ≤ x1 ∧ x1 ≤ 10
  · obtain ⟨n, rfl⟩ : ∃ n : Nat, x1 = (n : Int) := ⟨x1.toNat, by omega⟩
    refine Ok.ltn (by omega) (Ok.ltn (by omega) (Ok.bind (beginTrial_ok hv) (fun r1 h1 => ?_)))
    obtain ⟨w', h', f', d', cu', sk', se', we', l', e'⟩ := r1
    have g1 : w' = (W : Int) := h1.1
    have g2 : h' = (H : Int) := h1.2.1
    have g3 : f' = (F : Int) := h1.2.2.1
    have g4 : FQ d cu sk se we d' cu' sk' se' we' W H F := h1.2.2.2.1
    have g5 : l' = 0 := h1.2.2.2.2.1
    have g6 : e' = 0 := h1.2.2.2.2.2
    subst g1 g2 g3
    refine Ok.mono (crounds (d := d') (cu := cu') (sk := sk') (se := se') (we := we') (l', e', c, many, so, fo, su, tg, tb, dt, sz, ac, ar, no, og, tc) (hv.eq g4) (by omega) g5 g6 (by omega)) (fun r hr => ?_)
    obtain ⟨x, m, a1, a2, a3, a4, a5⟩ := hr
    refine Ok.bind (isIn_t (by omega) f) (fun b1 c1 => Ok.eqn (by omega) (Ok.bind (laysAside_ok hN) (fun b3 c3 => ?_)))
    refine Ok.mono (mrounds (d := d) hN (by omega) (by rw [a1]; exact hs.eq g4) a2 a3 a4) (fun q hq => ⟨by rw [a5, hq.1], hs.row hF hS.2 (fun k hk => by rw [hq.2 k hk, c3 k hk])⟩)
  · have hM : Ok ((fX12_isIn N x1 0 10).bind fun r1 => (if iZ r1 = iZ 0 then (some (((-3 : Int), (0 : Int), wm, s, sv, me, mc, be, mt, mb, mo, ec, ev))) else ((fX12_laysAside N s sv).bind fun r3 => (fX12_rounds_L26 N x1 (fX12_rounds_j42 N x1) N 0 0 wm s r3 me mc be mt mb mo ec ev)))) (fun q => -3 = q.1 ∧ SR q.2.2.2.1 d cu sk se we W H F) := Ok.bind (isIn_f (by omega) f) (fun b1 c1 => Ok.eqp c1 (Ok.ret ⟨rfl, hs⟩))
    exact Ok.lt (by omega) (fun _ => Ok.ret hM) (fun _ => Ok.ltp (by omega) (Ok.ret hM))
end PN
