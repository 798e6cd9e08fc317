/-! Questions, fourth part: period, alike, lost, setting, fault, count. -/
section PJ
/-! period -/
def dfS (me : Nat → Int) (p n : Nat) : Int := sI (fun t => ab (me t - me (t + p))) n
def pdS (me : Nat → Int) (F : Nat) : Nat → Int × Int
  | 0 => (-1, 0)
  | n + 1 => if (pdS me F n).1 = -1 ∨ dfS me (n + 1) (F - (n + 1)) * ((F : Int) - (pdS me F n).1) < (pdS me F n).2 * ((F : Int) - ((n : Int) + 1)) then ((n : Int) + 1, dfS me (n + 1) (F - (n + 1))) else pdS me F n
theorem pdS_succ (me : Nat → Int) (F n : Nat) : pdS me F (n + 1) = if (pdS me F n).1 = -1 ∨ dfS me (n + 1) (F - (n + 1)) * ((F : Int) - (pdS me F n).1) < (pdS me F n).2 * ((F : Int) - ((n : Int) + 1)) then ((n : Int) + 1, dfS me (n + 1) (F - (n + 1))) else pdS me F n := rfl
theorem dfS_b {me : Nat → Int} {F p n : Nat} (hF : F ≤ 24) (hm : ∀ t, t < F → 0 ≤ me t ∧ me t ≤ 960) (h : n + p ≤ F) : 0 ≤ dfS me p n ∧ dfS me p n ≤ 23040 := by
  have := sI_bound (f := fun t => ab (me t - me (t + p))) (c := 960) (n := n) (fun k hk => ⟨ab_nn _, ab_le (by have := hm k (by omega); have := hm (k + p) (by omega); omega)⟩)
  unfold dfS
  omega
theorem pdS_b {me : Nat → Int} {F : Nat} (hF : F ≤ 24) (hm : ∀ t, t < F → 0 ≤ me t ∧ me t ≤ 960) : ∀ n, n < F → ((pdS me F n).1 = -1 ∧ n = 0 ∧ (pdS me F n).2 = 0) ∨ (1 ≤ (pdS me F n).1 ∧ (pdS me F n).1 ≤ n ∧ 0 ≤ (pdS me F n).2 ∧ (pdS me F n).2 ≤ 23040)
  | 0, _ => Or.inl ⟨rfl, rfl, rfl⟩
  | n + 1, h => by
    have ih := pdS_b hF hm n (by omega)
    have hd := dfS_b (n := F - (n + 1)) (p := n + 1) hF hm (by omega)
    rw [pdS_succ]
    right
    by_cases q : (pdS me F n).1 = -1 ∨ dfS me (n + 1) (F - (n + 1)) * ((F : Int) - (pdS me F n).1) < (pdS me F n).2 * ((F : Int) - ((n : Int) + 1))
    · rw [if_pos q]
      show 1 ≤ (n : Int) + 1 ∧ (n : Int) + 1 ≤ ((n + 1 : Nat) : Int) ∧ 0 ≤ dfS me (n + 1) (F - (n + 1)) ∧ dfS me (n + 1) (F - (n + 1)) ≤ 23040
      omega
    · rw [if_neg q]
      rcases ih with z | z
      · exact absurd (Or.inl z.1) q
      · omega
def pdN (F : Nat) : Nat := if F - 1 < 8 then F - 1 else 8
theorem mul_b {x y : Int} (hx : 0 ≤ x ∧ x ≤ 23040) (hy : 0 ≤ y ∧ y ≤ 25) : 0 ≤ x * y ∧ x * y ≤ 576000 := by
  have h1 : 0 ≤ x * y := Int.mul_nonneg hx.1 hy.1
  have h2 : x * y ≤ 23040 * y := Int.mul_le_mul_of_nonneg_right hx.2 hy.1
  omega
theorem cperiod {N : Nat} {d cu sk se we : Nat → Int} {W H F : Nat} {c so fo : Nat → Int} {lk many : Int} (hv : FV d cu sk se we W H F) (hc : CR (CU d (W * H)) F c) (hN : 400 < N) : Ok (fX11_period_L18 N W H F d cu se (fX11_period_j125 N W H F d cu se) N (-1) 0 1 1 lk c many so fo) (fun r => r = ((pdS (meanS d (W * H)) F (pdN F)).1, lk, c, many, so, fo)) := by
  have hF := hv.2.2.1
  have hS := size_b hv.1 hv.2.1
  have hm : ∀ t, t < F → 0 ≤ meanS d (W * H) t ∧ meanS d (W * H) t ≤ 960 := fun t ht => meanS_b hS.2 (hv.dB ht)
  have hP : pdN F ≤ 8 ∧ pdN F ≤ F - 1 ∧ (pdN F = 8 ∨ pdN F = F - 1) := by
    unfold pdN
    by_cases q : F - 1 < 8
    · rw [if_pos q]; omega
    · rw [if_neg q]; omega
  refine Ok.loop (fun m i (a : Int × Int × Int) => fX11_period_L18 N W H F d cu se (fX11_period_j125 N W H F d cu se) m a.1 a.2.1 a.2.2 ((i + 1 : Nat) : Int) lk c many so fo) (pdN F) (fun i a => (a.1, a.2.1) = pdS (meanS d (W * H)) F i ∧ a.2.2 = if a.1 = -1 then 1 else (F : Int) - a.1) _ ?_ ?_ N 0 (-1, 0, 1) (by omega) (by omega) ⟨rfl, rfl⟩
  · intro m i a hi hI ih
    obtain ⟨i1, i2⟩ := hI
    have i1a : (pdS (meanS d (W * H)) F i).1 = a.1 := by rw [← i1]
    have i1b : (pdS (meanS d (W * H)) F i).2 = a.2.1 := by rw [← i1]
    have hpb := pdS_b hF hm i (by omega)
    rw [i1a, i1b] at hpb
    show Ok (fX11_period_b18 N W H F d cu se _ _ a.1 a.2.1 a.2.2 ((i + 1 : Nat) : Int) lk c many so fo) _
    unfold fX11_period_b18
    refine Ok.ltn (by omega) (Ok.ltp (by omega) ?_)
    obtain ⟨n, hn⟩ : ∃ n : Nat, (F : Int) - ((i + 1 : Nat) : Int) = (n : Int) := ⟨F - (i + 1), by omega⟩
    have hnN : F - (i + 1) = n := by omega
    rw [hn]
    refine Ok.loop (fun k j x => fX11_period_L55 N W H F d cu se (fX11_period_j92 N W H F d cu se (fX11_period_L18 N W H F d cu se (fX11_period_j125 N W H F d cu se) m) (fX11_period_j125 N W H F d cu se)) k a.1 a.2.1 a.2.2 ((i + 1 : Nat) : Int) x (n : Int) (j : Int) lk c many so fo) n (fun j x => x = dfS (meanS d (W * H)) (i + 1) j) _ ?_ ?_ N 0 0 (by omega) (by omega) rfl
    · intro k j x hj hI2 ih2
      show Ok (fX11_period_b55 N W H F d cu se _ _ a.1 a.2.1 a.2.2 ((i + 1 : Nat) : Int) x (n : Int) (j : Int) lk c many so fo) _
      unfold fX11_period_b55
      have h3 := hm j (by omega)
      have h4 := hm (j + (i + 1)) (by omega)
      refine Ok.ltp (by omega) (Ok.bind (cmean_ok hv hc (t := j) (by omega) (by omega)) (fun r5 h5 => ?_))
      rw [show (j : Int) + ((i + 1 : Nat) : Int) = ((j + (i + 1) : Nat) : Int) by omega]
      refine Ok.bind (cmean_ok hv hc (by omega) (by omega)) (fun r6 h6 => ih2 _ ?_)
      rw [abZ_ab (by omega), hI2, h5, h6]; rfl
    · intro k x hI2
      show Ok (fX11_period_b55 N W H F d cu se _ _ a.1 a.2.1 a.2.2 ((i + 1 : Nat) : Int) x (n : Int) (n : Int) lk c many so fo) _
      unfold fX11_period_b55 fX11_period_j92
      have hxb := dfS_b (p := i + 1) (n := n) hF hm (by omega)
      rw [← hI2] at hxb
      rw [show ((i + 1 : Nat) : Int) + 1 = ((i + 1 + 1 : Nat) : Int) by omega]
      refine Ok.ltn (by omega) (Ok.eq (by omega) (fun q => ih (_, _, _) ⟨?_, ?_⟩) (fun q => ?_))
      · show (((i + 1 : Nat) : Int), x) = _
        rw [pdS_succ, if_pos (Or.inl (by rw [i1a]; exact q)), hnN, hI2]; rfl
      · show (n : Int) = if ((i + 1 : Nat) : Int) = -1 then 1 else (F : Int) - ((i + 1 : Nat) : Int)
        rw [if_neg (by omega)]; omega
      · rw [if_neg q] at i2
        have m1 := mul_b (x := x) (y := a.2.2) hxb (by omega)
        have m2 := mul_b (x := a.2.1) (y := (n : Int)) (by omega) (by omega)
        have en : (F : Int) - ((i : Int) + 1) = (n : Int) := by omega
        refine Ok.lt (by omega) (fun q2 => ih (_, _, _) ⟨?_, ?_⟩) (fun q2 => ih a ⟨?_, by rw [if_neg q]; exact i2⟩)
        · show (((i + 1 : Nat) : Int), x) = _
          rw [pdS_succ, if_pos (Or.inr (by rw [i1a, i1b, hnN, ← hI2, ← i2, en]; exact q2)), hnN, hI2]; rfl
        · show (n : Int) = if ((i + 1 : Nat) : Int) = -1 then 1 else (F : Int) - ((i + 1 : Nat) : Int)
          rw [if_neg (by omega)]; omega
        · rw [pdS_succ, if_neg (by
            rw [i1a, i1b, hnN, ← hI2, ← i2, en]
            intro z
            rcases z with z | z
            · exact q z
            · omega)]
          exact i1
  · intro m a hI
    obtain ⟨i1, i2⟩ := hI
    have i1a : (pdS (meanS d (W * H)) F (pdN F)).1 = a.1 := by rw [← i1]
    show Ok (fX11_period_b18 N W H F d cu se _ _ a.1 a.2.1 a.2.2 ((pdN F + 1 : Nat) : Int) lk c many so fo) _
    unfold fX11_period_b18 fX11_period_j125
    rw [i1a]
    refine Ok.lt (by omega) (fun q => Ok.ret rfl) (fun q => Ok.ltn (by omega) (Ok.ret rfl))
theorem mperiod {N : Nat} {d cu sk se we : Nat → Int} {W H F : Nat} {s me mc be : Nat → Int} {th : Int} (s2 : s 2 = (F : Int)) (hv : FV d cu sk se we W H F) (hL : MlR d cu sk se we W H F me mc be) (hN : 400 < N) : Ok (fX12_period_L15 N s (fX12_period_j123 N s) N (-1) 0 1 th me mc be) (fun r => r.1 = (pdS (meanS d (W * H)) F (pdN F)).1) := by
  have hF := hv.2.2.1
  have hS := size_b hv.1 hv.2.1
  have hm : ∀ t, t < F → 0 ≤ meanS d (W * H) t ∧ meanS d (W * H) t ≤ 960 := fun t ht => meanS_b hS.2 (hv.dB ht)
  have hP : pdN F ≤ 8 ∧ pdN F ≤ F - 1 ∧ (pdN F = 8 ∨ pdN F = F - 1) := by
    unfold pdN
    by_cases q : F - 1 < 8
    · rw [if_pos q]; omega
    · rw [if_neg q]; omega
  refine Ok.loop (fun m i (a : Int × Int) => fX12_period_L15 N s (fX12_period_j123 N s) m a.1 a.2 ((i + 1 : Nat) : Int) th me mc be) (pdN F) (fun i a => a = pdS (meanS d (W * H)) F i) _ ?_ ?_ N 0 (-1, 0) (by omega) (by omega) rfl
  · intro m i a hi hI ih
    have hpb := pdS_b hF hm i (by omega)
    rw [← hI] at hpb
    show Ok (fX12_period_b15 N s _ _ a.1 a.2 ((i + 1 : Nat) : Int) th me mc be) _
    unfold fX12_period_b15
    rw [(show ((2 : Int)).toNat = 2 from rfl), s2]
    refine Ok.ltp (by omega) (Ok.gd (by omega) (Ok.ltp (by omega) ?_))
    obtain ⟨n, hnN⟩ : ∃ n : Nat, F - (i + 1) = n := ⟨_, rfl⟩
    refine Ok.loop (fun k j x => fX12_period_L37 N s (fX12_period_j80 N s (fX12_period_L15 N s (fX12_period_j123 N s) m) (fX12_period_j123 N s)) k a.1 a.2 ((i + 1 : Nat) : Int) x (j : Int) th me mc be) n (fun j x => x = dfS (meanS d (W * H)) (i + 1) j) _ ?_ ?_ N 0 0 (by omega) (by omega) rfl
    · intro k j x hj hI2 ih2
      show Ok (fX12_period_b37 N s _ _ a.1 a.2 ((i + 1 : Nat) : Int) x (j : Int) th me mc be) _
      unfold fX12_period_b37
      have h3 := hm j (by omega)
      have h4 := hm (j + (i + 1)) (by omega)
      rw [(show ((2 : Int)).toNat = 2 from rfl), s2, show (j : Int) + ((i + 1 : Nat) : Int) = ((j + (i + 1) : Nat) : Int) by omega, Int.toNat_natCast, Int.toNat_natCast, hL.1 j (by omega), hL.1 (j + (i + 1)) (by omega)]
      refine Ok.gd (by omega) (Ok.ltp (by omega) (Ok.gd (by omega) (Ok.gd (by omega) (Ok.bind (off_ok (by omega)) (fun r9 h9 => ih2 _ ?_)))))
      rw [hI2, h9]; rfl
    · intro k x hI2
      show Ok (fX12_period_b37 N s _ _ a.1 a.2 ((i + 1 : Nat) : Int) x (n : Int) th me mc be) _
      unfold fX12_period_b37 fX12_period_j80
      have hxb := dfS_b (p := i + 1) (n := n) hF hm (by omega)
      rw [← hI2] at hxb
      rw [(show ((2 : Int)).toNat = 2 from rfl), s2, show ((i + 1 : Nat) : Int) + 1 = ((i + 1 + 1 : Nat) : Int) by omega]
      refine Ok.gd (by omega) (Ok.ltn (by omega) (Ok.eq (by omega) (fun q => ih (_, _) ?_) (fun q => ?_)))
      · rw [pdS_succ, if_pos (Or.inl (by rw [← hI]; exact q)), hnN, hI2]; rfl
      · have en : (F : Int) - ((i + 1 : Nat) : Int) = (F : Int) - ((i : Int) + 1) := by omega
        have m1 := mul_b (x := x) (y := (F : Int) - a.1) hxb (by omega)
        have m2 := mul_b (x := a.2) (y := (F : Int) - ((i : Int) + 1)) (by omega) (by omega)
        rw [en]
        refine Ok.gd (by omega) (Ok.gd (by omega) (Ok.lt (by omega) (fun q2 => ih (_, _) ?_) (fun q2 => ih a ?_)))
        · rw [pdS_succ, if_pos (Or.inr (by rw [← hI, hnN, ← hI2]; exact q2)), hnN, hI2]; rfl
        · rw [pdS_succ, if_neg (by
            rw [← hI, hnN, ← hI2]
            intro z
            rcases z with z | z
            · exact q z
            · omega)]
          exact hI
  · intro m a hI
    show Ok (fX12_period_b15 N s _ _ a.1 a.2 ((pdN F + 1 : Nat) : Int) th me mc be) _
    unfold fX12_period_b15 fX12_period_j123
    rw [(show ((2 : Int)).toNat = 2 from rfl), s2, ← hI]
    refine Ok.lt (by omega) (fun q => Ok.gd (by omega) (Ok.ltn (by omega) (Ok.ret rfl))) (fun q => Ok.ret rfl)
theorem period_j {N : Nat} {d cu sk se we : Nat → Int} {W H F : Nat} {lk many th : Int} {c so fo me mc be : Nat → Int} {s : Nat → Int} (hs : SR s d cu sk se we W H F) (hv : FV d cu sk se we W H F) (hN : 400 < N) (hl : LkI d cu sk se we W H F lk c many so fo) : Ok (fX11_period N W H F d cu se lk c many so fo) (fun r => LkI d cu sk se we W H F r.2.1 r.2.2.1 r.2.2.2.1 r.2.2.2.2.1 r.2.2.2.2.2 ∧ Ok (fX12_period N s th me mc be) (fun q => r.1 = q.1)) := by
  unfold fX11_period fX12_period
  refine Ok.bind (looked_ok hv hN hl) (fun r2 h2 => ?_)
  refine Ok.mono (cperiod hv h2.2.1 hN) (fun r hr => ?_)
  rw [hr]
  refine ⟨Or.inr h2, Ok.bind (mlays_ok hs hv (by omega)) (fun a3 b3 => ?_)⟩
  exact Ok.mono (mperiod hs.2.2.1 hv b3 hN) (fun q hq => hq.symm)
/-! alike -/
def lkP (d : Nat → Int) (S u t : Nat) : Prop := ∀ p, p < S → d (64 * u + p) = d (64 * t + p)
noncomputable def lkG (d : Nat → Int) (S t : Nat) : Nat → Int := fun u => if pB (lkP d S u t) then 1 else 0
noncomputable def fkS (d : Nat → Int) (S t : Nat) : Nat := lsF (lkG d S t) 1 t
theorem lkG_t {d : Nat → Int} {S u t : Nat} (h : lkP d S u t) : lkG d S t u = 1 := by
  unfold lkG; rw [pB_t h]; rfl
theorem lkG_f {d : Nat → Int} {S u t : Nat} (h : ¬ lkP d S u t) : lkG d S t u = 0 := by
  unfold lkG; rw [pB_f h]; rfl
theorem sameDots_ok {N W H F u t : Nat} {d : Nat → Int} (hS : W * H ≤ 64) (hF : F ≤ 24) (hu : u < F) (ht : t < F) (hd : DB d (W * H) F) (hN : 80 < N) : Ok (fX2_sameDots N W H d u t) (fun r => (r = 1 ∧ lkP d (W * H) u t) ∨ (r = 0 ∧ ¬ lkP d (W * H) u t)) := by
  unfold fX2_sameDots
  refine Ok.loop (fun m i (_ : Unit) => fX2_sameDots_L2 N W H d u t (fX2_sameDots_j43 N W H d u t) m (i : Int)) (W * H) (fun i _ => ∀ p, p < i → d (64 * u + p) = d (64 * t + p)) _ ?_ ?_ N 0 () (by omega) (by omega) (fun p hp => by omega)
  · intro m i _ hi hI ih
    show Ok (fX2_sameDots_b2 N W H d u t _ _ (i : Int)) _
    unfold fX2_sameDots_b2
    have h1 := hd u i hu hi
    have h2 := hd t i ht hi
    refine Ok.bind fsize_ok (fun r1 e1 => ?_)
    rw [e1, show ((u : Int) * 64 + (i : Int)).toNat = 64 * u + i by omega, show ((t : Int) * 64 + (i : Int)).toNat = 64 * t + i by omega]
    refine Ok.ltp (by omega) (Ok.gd (by omega) (Ok.gd (by omega) (Ok.eq (by omega) (fun q => ih () (fun p hp => ?_)) (fun q => Ok.ret (Or.inr ⟨rfl, fun z => q (z i hi)⟩)))))
    by_cases z : p = i
    · rw [z]; exact q
    · exact hI p (by omega)
  · intro m _ hI
    show Ok (fX2_sameDots_b2 N W H d u t _ _ ((W * H : Nat) : Int)) _
    unfold fX2_sameDots_b2 fX2_sameDots_j43
    refine Ok.bind fsize_ok (fun r1 e1 => ?_)
    rw [e1]
    exact Ok.ltn (by omega) (Ok.ret (Or.inl ⟨rfl, hI⟩))
theorem areLike_ok {N u t : Nat} {d cu sk se we : Nat → Int} {W H F : Nat} {s : Nat → Int} (hs : SR s d cu sk se we W H F) (hv : FV d cu sk se we W H F) (hu : u < F) (ht : t < F) (hN : 80 < N) : Ok (fX12_areLike N s t u) (fun r => (r = 1 ∧ lkP d (W * H) u t) ∨ (r = 0 ∧ ¬ lkP d (W * H) u t)) := by
  have hS := size_b hv.1 hv.2.1
  unfold fX12_areLike
  refine Ok.loop (fun m i (_ : Unit) => fX12_areLike_L2 N s t u (fX12_areLike_j33 N s t u) m (i : Int)) (W * H) (fun i _ => ∀ p, p < i → d (64 * u + p) = d (64 * t + p)) _ ?_ ?_ N 0 () (by omega) (by omega) (fun p hp => by omega)
  · intro m i _ hi hI ih
    show Ok (fX12_areLike_b2 N s t u _ _ (i : Int)) _
    unfold fX12_areLike_b2
    have h1 := hv.dB hu i hi
    have h2 := hv.dB ht i hi
    refine Ok.bind (mdots_ok hs) (fun r1 e1 => ?_)
    rw [e1]
    refine Ok.ltp (by omega) (Ok.bind (mdotAt_ok hs hv ht hi) (fun r3 h3 => Ok.bind (mdotAt_ok hs hv hu hi) (fun r4 h4 => Ok.eq (by omega) (fun q => ih () (fun p hp => ?_)) (fun q => Ok.ret (Or.inr ⟨rfl, fun z => q (by rw [h3, h4]; exact (z i hi).symm)⟩)))))
    by_cases z : p = i
    · rw [z, ← h3, ← h4]; exact q.symm
    · exact hI p (by omega)
  · intro m _ hI
    show Ok (fX12_areLike_b2 N s t u _ _ ((W * H : Nat) : Int)) _
    unfold fX12_areLike_b2 fX12_areLike_j33
    refine Ok.bind (mdots_ok hs) (fun r1 e1 => ?_)
    rw [e1]
    exact Ok.ltn (by omega) (Ok.ret (Or.inl ⟨rfl, hI⟩))
theorem fk_next {d : Nat → Int} {S t i : Nat} (hI : ∀ y, y < i → lkG d S t y < 1) (h : ¬ lkP d S i t) : ∀ y, y < i + 1 → lkG d S t y < 1 := fun y hy => by
  by_cases z : y = i
  · rw [z, lkG_f h]; omega
  · exact hI y (by omega)
theorem firstLike_ok {N W H F t : Nat} {d : Nat → Int} (hS : W * H ≤ 64) (hF : F ≤ 24) (ht : t < F) (hd : DB d (W * H) F) (hN : 80 < N) : Ok (fX2_firstLike N W H d t) (fun r => r = (fkS d (W * H) t : Int)) := by
  unfold fX2_firstLike fkS
  refine Ok.loop (fun m i (_ : Unit) => fX2_firstLike_L2 N W H d t (fX2_firstLike_j24 N W H d t) m (i : Int)) t (fun i _ => ∀ y, y < i → lkG d (W * H) t y < 1) _ ?_ ?_ N 0 () (by omega) (by omega) (fun p hp => by omega)
  · intro m i _ hi hI ih
    show Ok (fX2_firstLike_b2 N W H d t _ _ (i : Int)) _
    unfold fX2_firstLike_b2
    refine Ok.ltp (by omega) (Ok.bind (sameDots_ok hS hF (by omega) ht hd hN) (fun r2 h2 => ?_))
    rcases h2 with ⟨z, z2⟩ | ⟨z, z2⟩
    · refine Ok.eqn (by omega) (Ok.ret ?_)
      rw [lsF_eq (w := i) (by omega) hI (fun _ => by rw [lkG_t z2]; omega)]
    · exact Ok.eqp z (ih () (fk_next hI z2))
  · intro m _ hI
    show Ok (fX2_firstLike_b2 N W H d t _ _ (t : Int)) _
    unfold fX2_firstLike_b2 fX2_firstLike_j24
    refine Ok.ltn (by omega) (Ok.ret ?_)
    rw [lsF_eq (w := t) (by omega) hI (fun z => by omega)]
theorem mfirstLike_ok {N t : Nat} {d cu sk se we : Nat → Int} {W H F : Nat} {s : Nat → Int} (hs : SR s d cu sk se we W H F) (hv : FV d cu sk se we W H F) (ht : t < F) (hN : 80 < N) : Ok (fX12_firstLike N s t) (fun r => r = (fkS d (W * H) t : Int)) := by
  have hF := hv.2.2.1
  unfold fX12_firstLike fkS
  refine Ok.loop (fun m i (_ : Unit) => fX12_firstLike_L2 N s t (fX12_firstLike_j17 N s t) m (i : Int)) t (fun i _ => ∀ y, y < i → lkG d (W * H) t y < 1) _ ?_ ?_ N 0 () (by omega) (by omega) (fun p hp => by omega)
  · intro m i _ hi hI ih
    show Ok (fX12_firstLike_b2 N s t _ _ (i : Int)) _
    unfold fX12_firstLike_b2 fX12_firstLike_j17
    refine Ok.bind (areLike_ok hs hv (by omega) ht hN) (fun r2 h2 => ?_)
    rcases h2 with ⟨z, z2⟩ | ⟨z, z2⟩
    · refine Ok.eqn (by omega) (Ok.ret ?_)
      rw [lsF_eq (w := i) (by omega) hI (fun _ => by rw [lkG_t z2]; omega)]
    · exact Ok.eqp z (ih () (fk_next hI z2))
  · intro m _ hI
    show Ok (fX12_firstLike_b2 N s t _ _ (t : Int)) _
    unfold fX12_firstLike_b2 fX12_firstLike_j17
    refine Ok.bind (areLike_ok hs hv ht ht hN) (fun r2 h2 => ?_)
    rcases h2 with ⟨z, z2⟩ | ⟨z, z2⟩
    · refine Ok.eqn (by omega) (Ok.ret ?_)
      rw [lsF_eq (w := t) (by omega) hI (fun z => by omega)]
    · exact absurd (fun p _ => rfl) z2
noncomputable def akS (d : Nat → Int) (S n : Nat) : Int := sI (fun t => if fkS d S t = t then 1 else 0) n
theorem calike {N : Nat} {d cu sk se we : Nat → Int} {W H F : Nat} {x1 : Int} (hv : FV d cu sk se we W H F) (hN : 400 < N) : Ok (fX11_alike_L9 N W H F d x1 (fX11_alike_j46 N W H F d x1) N 0 0) (fun r => r = akS d (W * H) F) := by
  have hF := hv.2.2.1
  have hS := size_b hv.1 hv.2.1
  refine Ok.loop (fun m i a => fX11_alike_L9 N W H F d x1 (fX11_alike_j46 N W H F d x1) m a (i : Int)) F (fun i a => a = akS d (W * H) i) _ ?_ ?_ N 0 0 (by omega) (by omega) rfl
  · intro m i a hi hI ih
    show Ok (fX11_alike_b9 N W H F d x1 _ _ a (i : Int)) _
    unfold fX11_alike_b9
    have hsp := lsF_spec (lkG d (W * H) i) 1 i
    have e2 : akS d (W * H) (i + 1) = akS d (W * H) i + if fkS d (W * H) i = i then 1 else 0 := rfl
    have hfk : fkS d (W * H) i ≤ i := hsp.1
    refine Ok.ltp (by omega) (Ok.bind (firstLike_ok hS.2 hF hi hv.2.2.2.1 (by omega)) (fun r6 h6 => Ok.eq (by omega) (fun q => ih _ ?_) (fun q => ih _ ?_)))
    · rw [e2, if_pos (by omega), hI]
    · rw [e2, if_neg (by omega), hI]
  · intro m a hI
    show Ok (fX11_alike_b9 N W H F d x1 _ _ a (F : Int)) _
    unfold fX11_alike_b9 fX11_alike_j46
    exact Ok.ltn (by omega) (Ok.ret hI)
theorem malike {N : Nat} {d cu sk se we : Nat → Int} {W H F : Nat} {s : Nat → Int} {x1 th : Int} (hs : SR s d cu sk se we W H F) (hv : FV d cu sk se we W H F) (hN : 400 < N) : Ok (fX12_alike_L36 N s x1 (fX12_alike_j69 N s x1) N 0 0 th) (fun r => r.1 = akS d (W * H) F) := by
  have hF := hv.2.2.1
  refine Ok.loop (fun m i a => fX12_alike_L36 N s x1 (fX12_alike_j69 N s x1) m a (i : Int) th) F (fun i a => a = akS d (W * H) i) _ ?_ ?_ N 0 0 (by omega) (by omega) rfl
  · intro m i a hi hI ih
    show Ok (fX12_alike_b36 N s x1 _ _ a (i : Int) th) _
    unfold fX12_alike_b36
    have hsp := lsF_spec (lkG d (W * H) i) 1 i
    have e2 : akS d (W * H) (i + 1) = akS d (W * H) i + if fkS d (W * H) i = i then 1 else 0 := rfl
    have hfk : fkS d (W * H) i ≤ i := hsp.1
    rw [(show ((2 : Int)).toNat = 2 from rfl), hs.2.2.1]
    refine Ok.gd (by omega) (Ok.ltp (by omega) (Ok.bind (mfirstLike_ok hs hv hi (by omega)) (fun r6 h6 => Ok.eq (by omega) (fun q => ih _ ?_) (fun q => ih _ ?_))))
    · rw [e2, if_pos (by omega), hI]
    · rw [e2, if_neg (by omega), hI]
  · intro m a hI
    show Ok (fX12_alike_b36 N s x1 _ _ a (F : Int) th) _
    unfold fX12_alike_b36 fX12_alike_j69
    rw [(show ((2 : Int)).toNat = 2 from rfl), hs.2.2.1]
    exact Ok.gd (by omega) (Ok.ltn (by omega) (Ok.ret hI))
theorem alike_j {N : Nat} {d cu sk se we : Nat → Int} {W H F : Nat} {s : Nat → Int} {x1 th : Int} (hs : SR s d cu sk se we W H F) (hv : FV d cu sk se we W H F) (hN : 400 < N) (hx1 : -2147483648 ≤ x1 ∧ x1 < 2147483648) : Ok (fX11_alike N W H F d x1) (fun r => Ok (fX12_alike N s th x1) (fun q => r = q.1)) := by
  have hF := hv.2.2.1
  have hS := size_b hv.1 hv.2.1
  unfold fX11_alike fX12_alike
  refine Ok.eq (by omega) (fun q => ?_) (fun q => ?_)
  · refine Ok.mono (calike hv hN) (fun r hr => Ok.eqp q (Ok.eqp q ?_))
    exact Ok.mono (malike hs hv hN) (fun z hz => by rw [hr, hz])
  · by_cases f1 : 0 ≤ x1 ∧ x1 < F
    · obtain ⟨t, rfl⟩ : ∃ t : Nat, x1 = (t : Int) := ⟨x1.toNat, by omega⟩
      refine Ok.bind (hasFrame_t hF f1) (fun r2 h2 => Ok.eqn (by omega) (Ok.bind (firstLike_ok hS.2 hF (by omega) hv.2.2.2.1 (by omega)) (fun r4 h4 => Ok.ret ?_)))
      refine Ok.eqn (by omega) (Ok.bind (isFrame_t hs.2.2.1 hF f1) (fun a1 b1 => Ok.eqn (by omega) (Ok.eqn (by omega) (Ok.bind (mfirstLike_ok hs hv (by omega) (by omega)) (fun a4 b4 => Ok.ret ?_)))))
      rw [h4, b4]
    · exact Ok.bind (hasFrame_f hF hx1 f1) (fun r2 h2 => Ok.eqp h2 (Ok.ret (Ok.eqn (by omega) (Ok.bind (isFrame_f hs.2.2.1 hF hx1 f1) (fun a1 b1 => Ok.eqp b1 (Ok.ret rfl))))))
/-! setting, fault, count -/
theorem setting_j {N : Nat} {d cu sk se we : Nat → Int} {W H F : Nat} {s : Nat → Int} {x1 th : Int} (hs : SR s d cu sk se we W H F) (hx1 : -2147483648 ≤ x1 ∧ x1 < 2147483648) : Ok (fX11_setting N se x1) (fun r => Ok (fX12_setting N s th x1) (fun q => r = q.1)) := by
  unfold fX11_setting fX12_setting fX11_isSetting
  by_cases f1 : 0 ≤ x1 ∧ x1 ≤ 5
  · obtain ⟨k, rfl⟩ : ∃ k : Nat, x1 = (k : Int) := ⟨x1.toNat, by omega⟩
    refine Ok.bind (P := fun r => r = 1) (Ok.ltn (by omega) (Ok.ltp (by omega) (Ok.ret rfl))) (fun r1 h1 => Ok.eqn (by omega) (Ok.gd (by omega) (Ok.ret ?_)))
    refine Ok.bind (isIn_t (by omega) f1) (fun a1 b1 => Ok.eqn (by omega) (Ok.gd (by omega) (Ok.ret ?_)))
    rw [Int.toNat_natCast, show (3 + (k : Int)).toNat = 3 + k by omega]
    exact (hs.2.2.2.1 k (by omega)).symm
  · refine Ok.bind (P := fun r => r = 0) (Ok.lt (by omega) (fun _ => Ok.ret rfl) (fun _ => Ok.ltn (by omega) (Ok.ret rfl))) (fun r1 h1 => Ok.eqp h1 (Ok.ret ?_))
    exact Ok.bind (isIn_f (by omega) f1) (fun a1 b1 => Ok.eqp b1 (Ok.ret rfl))
theorem fault_j {N : Nat} {x1 th fa pl : Int} (hx1 : -2147483648 ≤ x1 ∧ x1 < 2147483648) : Ok (fX11_fault N fa pl x1) (fun r => Ok (fX12_fault N fa pl th x1) (fun q => r = q.1)) := by
  unfold fX11_fault fX12_fault
  refine Ok.eq (by omega) (fun q => Ok.ret (Ok.eqp q (Ok.ret rfl))) (fun q => Ok.eq (by omega) (fun q2 => Ok.ret (Ok.eqn (by omega) (Ok.eqp q2 (Ok.ret rfl)))) (fun q2 => Ok.ret (Ok.eqn (by omega) (Ok.eqn (by omega) (Ok.ret rfl)))))
theorem count_j {N : Nat} {d cu sk se we : Nat → Int} {W H F : Nat} {s : Nat → Int} {x1 th am ln : Int} (hs : SR s d cu sk se we W H F) (hv : FV d cu sk se we W H F) (hN : 400 < N) (hx1 : -2147483648 ≤ x1 ∧ x1 < 2147483648) : Ok (fX11_count N W H F sk cu am ln we x1) (fun r => Ok (fX12_count N am ln s th x1) (fun q => r = q.1)) := by
  have hF := hv.2.2.1
  unfold fX11_count fX12_count
  by_cases q0 : x1 = 0
  · rw [q0]; exact Ok.eqp rfl (Ok.ret (Ok.eqp rfl (Ok.gd (by omega) (Ok.ret hs.1.symm))))
  refine Ok.eqn (by omega) ?_
  by_cases q1 : x1 = 1
  · rw [q1]; exact Ok.eqp rfl (Ok.ret (Ok.eqn (by omega) (Ok.eqp rfl (Ok.gd (by omega) (Ok.ret hs.2.1.symm)))))
  refine Ok.eqn (by omega) ?_
  by_cases q2 : x1 = 2
  · rw [q2]; exact Ok.eqp rfl (Ok.ret (Ok.eqn (by omega) (Ok.eqn (by omega) (Ok.eqp rfl (Ok.gd (by omega) (Ok.ret hs.2.2.1.symm))))))
  refine Ok.eqn (by omega) ?_
  by_cases q3 : x1 = 3
  · refine Ok.eqp q3 (Ok.bind (marked_ok hF (by omega) (fun t h1 h2 => (hv.2.2.2.2.2.2.1 t h1 h2).2)) (fun r5 h5 => Ok.ret ?_))
    exact Ok.eqn (by omega) (Ok.eqn (by omega) (Ok.eqn (by omega) (Ok.eqp q3 (Ok.gd (by omega) (Ok.bind (bitCount_ok hs.2.2.2.2.2.2.1) (fun a b => Ok.ret (by rw [h5, b])))))))
  refine Ok.eqn (by omega) ?_
  by_cases q4 : x1 = 4
  · refine Ok.eqp q4 (Ok.bind (marked_ok hF (by omega) (fun t h1 h2 => (hv.2.2.2.2.2.2.1 t h1 h2).1)) (fun r5 h5 => Ok.ret ?_))
    exact Ok.eqn (by omega) (Ok.eqn (by omega) (Ok.eqn (by omega) (Ok.eqn (by omega) (Ok.eqp q4 (Ok.gd (by omega) (Ok.bind (bitCount_ok hs.2.2.2.2.2.1) (fun a b => Ok.ret (by rw [h5, b]))))))))
  refine Ok.eqn (by omega) ?_
  by_cases q5 : x1 = 5
  · exact Ok.eqp q5 (Ok.ret (Ok.eqn (by omega) (Ok.eqn (by omega) (Ok.eqn (by omega) (Ok.eqn (by omega) (Ok.eqn (by omega) (Ok.eqp q5 (Ok.ret rfl))))))))
  refine Ok.eqn (by omega) ?_
  by_cases q6 : x1 = 6
  · exact Ok.eqp q6 (Ok.ret (Ok.eqn (by omega) (Ok.eqn (by omega) (Ok.eqn (by omega) (Ok.eqn (by omega) (Ok.eqn (by omega) (Ok.eqn (by omega) (Ok.eqp q6 (Ok.ret rfl)))))))))
  refine Ok.eqn (by omega) ?_
  unfold fX11_weightCount
  have M : ∀ a : Int, (∀ k : Nat, k < 4 → x1 = 10 + (k : Int) → a = we k) → (¬ (10 ≤ x1 ∧ x1 ≤ 13) → a = -1) → Ok (if iZ x1 = iZ 0 then (gd ((0 : Int) ≤ x1 ∧ x1 < 1551) (some ((s x1.toNat, (0 : Int))))) else (if iZ x1 = iZ 1 then (gd ((0 : Int) ≤ x1 ∧ x1 < 1551) (some ((s x1.toNat, 0)))) else (if iZ x1 = iZ 2 then (gd ((0 : Int) ≤ x1 ∧ x1 < 1551) (some ((s x1.toNat, 0)))) else (if iZ x1 = iZ 3 then (gd ((0 : Int) ≤ (14 : Int) ∧ (14 : Int) < 1551) ((fJ6_bitCount_0f7a4 N (s (14 : Int).toNat)).bind fun r9 => (some ((r9, 0))))) else (if iZ x1 = iZ 4 then (gd ((0 : Int) ≤ (13 : Int) ∧ (13 : Int) < 1551) ((fJ6_bitCount_0f7a4 N (s (13 : Int).toNat)).bind fun r12 => (some ((r12, 0))))) else (if iZ x1 = iZ 5 then (some ((am, 0))) else (if iZ x1 = iZ 6 then (some ((ln, 0))) else ((fX12_isIn N x1 10 13).bind fun r15 => (if iZ r15 = iZ 0 then (some (((-1), 0))) else (gd ((0 : Int) ≤ (9 + x1) - 10 ∧ (9 + x1) - 10 < 1551) (some ((s ((9 + x1) - 10).toNat, 0))))))))))))) (fun q => a = q.1) := by
    intro a g1 g2
    refine Ok.eqn (by omega) (Ok.eqn (by omega) (Ok.eqn (by omega) (Ok.eqn (by omega) (Ok.eqn (by omega) (Ok.eqn (by omega) (Ok.eqn (by omega) ?_))))))
    by_cases f : 10 ≤ x1 ∧ x1 ≤ 13
    · obtain ⟨k, hk⟩ : ∃ k : Nat, x1 = 10 + (k : Int) := ⟨(x1 - 10).toNat, by omega⟩
      refine Ok.bind (isIn_t (by omega) f) (fun a1 b1 => Ok.eqn (by omega) (Ok.gd (by omega) (Ok.ret ?_)))
      rw [g1 k (by omega) hk, show ((9 + x1) - 10).toNat = 9 + k by omega]
      exact (hs.2.2.2.2.1 k (by omega)).symm
    · exact Ok.bind (isIn_f (by omega) f) (fun a1 b1 => Ok.eqp b1 (Ok.ret (g2 f)))
  by_cases f : 10 ≤ x1 ∧ x1 ≤ 13
  · refine Ok.bind (P := fun r => r = we (x1 - 10).toNat) (Ok.ltn (by omega) (Ok.ltp (by omega) (Ok.gd (by omega) (Ok.ret rfl)))) (fun r h => Ok.ret (M r (fun k hk hx => ?_) (fun z => absurd f z)))
    rw [h, show (x1 - 10).toNat = k by omega]
  · refine Ok.bind (P := fun r => r = -1) (Ok.lt (by omega) (fun _ => Ok.ret rfl) (fun _ => Ok.ltn (by omega) (Ok.ret rfl))) (fun r h => Ok.ret (M r (fun k hk hx => by omega) (fun _ => h)))
end PJ
