/-! Questions, second part. -/
section PG
theorem tally_0 {N : Nat} {d cu sk se we : Nat → Int} {W H F : Nat} {lk en many sz : Int} {c so fo su tg tb dt ac ar no og tc : Nat → Int} (hv : FV d cu sk se we W H F) (hN : 400 < N) (hl : LkI d cu sk se we W H F lk c many so fo) (he : EnI d cu sk se we W H F en tg tb dt tc) : Ok (fX11_tally N W H F d cu se sk we lk en c many so fo su tg tb dt sz ac ar no og tc 0) (fun r => r.1 = 0 ∧ EvT d cu sk se we W H F r.2 ∧ LkR d cu sk se we W H F r.2.2.2.1 r.2.2.2.2.1 r.2.2.2.2.2.1 r.2.2.2.2.2.2.1) := by
  unfold fX11_tally
  exact Ok.eqp rfl (Ok.bind (looked_ok hv hN hl) (fun r h => Ok.ret ⟨rfl, ⟨Or.inr h, he⟩, h.2⟩))
theorem tally_1 {N : Nat} {d cu sk se we : Nat → Int} {W H F : Nat} {lk en many sz : Int} {c so fo su tg tb dt ac ar no og tc : Nat → Int} (hv : FV d cu sk se we W H F) (hN : 400 < N) (hl : LkI d cu sk se we W H F lk c many so fo) (he : EnI d cu sk se we W H F en tg tb dt tc) : Ok (fX11_tally N W H F d cu se sk we lk en c many so fo su tg tb dt sz ac ar no og tc 1) (fun r => r.1 = 1 ∧ EvT d cu sk se we W H F r.2 ∧ LkR d cu sk se we W H F r.2.2.2.1 r.2.2.2.2.1 r.2.2.2.2.2.1 r.2.2.2.2.2.2.1 ∧ EnR d cu sk se we W H F r.2.2.2.2.2.2.2.2.1 r.2.2.2.2.2.2.2.2.2.1 r.2.2.2.2.2.2.2.2.2.2.1 r.2.2.2.2.2.2.2.2.2.2.2.2.2.2.2.2) := by
  unfold fX11_tally
  exact Ok.eqn (by omega) (Ok.bind (evened_ok hv hN hl he) (fun r h => Ok.ret ⟨rfl, ⟨Or.inr ⟨h.1, h.2.1⟩, Or.inr h.2.2⟩, h.2.1, h.2.2.2⟩))
/-! apart -/
theorem apart_j {N : Nat} {d cu sk se we : Nat → Int} {W H F : Nat} {lk en many sz : Int} {c so fo su tg tb dt ac ar no og tc : Nat → Int} {th wm : Int} {me mc be mt mb mo ec ev : Nat → Int} {s : Nat → Int} {x1 x2 x3 : Int} (hs : SR s d cu sk se we W H F) (hv : FV d cu sk se we W H F) (hN : 400 < N) (hl : LkI d cu sk se we W H F lk c many so fo) (he : EnI d cu sk se we W H F en tg tb dt tc) (hx1 : -2147483648 ≤ x1 ∧ x1 < 2147483648) (hx2 : -2147483648 ≤ x2 ∧ x2 < 2147483648) (hx3 : x3 = 0 ∨ x3 = 1) : Ok (fX11_apart N W H F d cu se sk we lk en c many so fo su tg tb dt sz ac ar no og tc x1 x2 x3) (fun r => EvT d cu sk se we W H F r.2 ∧ Ok (fX12_apart N s th wm me mc be mt mb mo ec ev x1 x2 x3) (fun q => r.1 = q.1)) := by
  have hF := hv.2.2.1
  have hS := size_b hv.1 hv.2.1
  have hC := CU_b (d := d) hS.2
  have hC2 := CU_b (d := EV d cu sk se we W H F) hS.2
  unfold fX11_apart fX12_apart
  by_cases f1 : 0 ≤ x1 ∧ x1 < F
  · refine Ok.bind (hasFrame_t hF f1) (fun r1 h1 => Ok.eqn (by omega) ?_)
    by_cases f2 : 0 ≤ x2 ∧ x2 < F
    · refine Ok.bind (hasFrame_t hF f2) (fun r3 h3 => Ok.eqn (by omega) ?_)
      obtain ⟨t, rfl⟩ : ∃ t : Nat, x1 = (t : Int) := ⟨x1.toNat, by omega⟩
      obtain ⟨u, rfl⟩ : ∃ u : Nat, x2 = (u : Int) := ⟨x2.toNat, by omega⟩
      rcases hx3 with rfl | rfl
      · refine Ok.bind (tally_0 hv hN hl he) (fun r5 h5 => ?_)
        rw [if_pos h5.1]
        refine Ok.bind (gapC_ok h5.2.2.1 hC h5.2.2.2.1 hF (t := t) (u := u) (by omega) (by omega) (by omega)) (fun r7 h7 => Ok.ret ⟨h5.2.1, ?_⟩)
        refine Ok.bind (isFrame_t hs.2.2.1 hF f1) (fun a1 b1 => Ok.eqn (by omega) (Ok.bind (isFrame_t hs.2.2.1 hF f2) (fun a3 b3 => Ok.eqn (by omega) (Ok.bind (evensAll_ok hs hv (by omega)) (fun a5 b5 => Ok.eqp rfl ?_)))))
        refine Ok.bind (apartC_ok b5.1.2.1 hC hF (t := t) (u := u) (by omega) (by omega) (by omega)) (fun a7 b7 => Ok.ret ?_)
        rw [h7.1, b7.1]
      · refine Ok.bind (tally_1 hv hN hl he) (fun r5 h5 => ?_)
        rw [if_neg (by omega)]
        refine Ok.bind (gapC_ok h5.2.2.2.2.2.2.1 hC2 h5.2.2.2.2.2.2.2 hF (t := t) (u := u) (by omega) (by omega) (by omega)) (fun r7 h7 => Ok.ret ⟨h5.2.1, ?_⟩)
        refine Ok.bind (isFrame_t hs.2.2.1 hF f1) (fun a1 b1 => Ok.eqn (by omega) (Ok.bind (isFrame_t hs.2.2.1 hF f2) (fun a3 b3 => Ok.eqn (by omega) (Ok.bind (evensAll_ok hs hv (by omega)) (fun a5 b5 => Ok.eqn (by omega) ?_)))))
        refine Ok.bind (apartC_ok b5.2.1 hC2 hF (t := t) (u := u) (by omega) (by omega) (by omega)) (fun a7 b7 => Ok.ret ?_)
        rw [h7.1, b7.1]
    · exact Ok.bind (hasFrame_f hF hx2 f2) (fun r3 h3 => Ok.eqp h3 (Ok.ret ⟨⟨hl, he⟩, Ok.bind (isFrame_t hs.2.2.1 hF f1) (fun a1 b1 => Ok.eqn (by omega) (Ok.bind (isFrame_f hs.2.2.1 hF hx2 f2) (fun a3 b3 => Ok.eqp b3 (Ok.ret rfl))))⟩))
  · exact Ok.bind (hasFrame_f hF hx1 f1) (fun r3 h3 => Ok.eqp h3 (Ok.ret ⟨⟨hl, he⟩, Ok.bind (isFrame_f hs.2.2.1 hF hx1 f1) (fun a3 b3 => Ok.eqp b3 (Ok.ret rfl))⟩))
/-! flicker -/
theorem flicker_j {N : Nat} {d cu sk se we : Nat → Int} {W H F : Nat} {lk en many sz : Int} {c so fo su tg tb dt ac ar no og tc : Nat → Int} {th wm : Int} {me mc be mt mb mo ec ev : Nat → Int} {s : Nat → Int} {x1 : Int} (hs : SR s d cu sk se we W H F) (hv : FV d cu sk se we W H F) (hN : 400 < N) (hl : LkI d cu sk se we W H F lk c many so fo) (he : EnI d cu sk se we W H F en tg tb dt tc) (hx1 : x1 = 0 ∨ x1 = 1) : Ok (fX11_flicker N W H F d cu se sk we lk en c many so fo su tg tb dt sz ac ar no og tc x1) (fun r => EvT d cu sk se we W H F r.2 ∧ Ok (fX12_flicker N s th wm me mc be mt mb mo ec ev x1) (fun q => r.1 = q.1)) := by
  have hF := hv.2.2.1
  have hS := size_b hv.1 hv.2.1
  have hC := CU_b (d := d) hS.2
  have hC2 := CU_b (d := EV d cu sk se we W H F) hS.2
  unfold fX11_flicker fX12_flicker
  rcases hx1 with rfl | rfl
  · refine Ok.bind (tally_0 hv hN hl he) (fun r5 h5 => ?_)
    rw [if_pos h5.1]
    refine Ok.bind (flickerOf_ok h5.2.2.2.2 (BS_0 _ _ _ _) hF h5.2.2.1 hC h5.2.2.2.1 (by omega)) (fun r7 h7 => Ok.ret ⟨h5.2.1, ?_⟩)
    refine Ok.bind (evensAll_ok hs hv (by omega)) (fun a5 b5 => Ok.eqp rfl ?_)
    refine Ok.bind (flickerBy_ok b5.1.2.2 hs.2.2.1 hF b5.1.2.1 hC (by omega)) (fun a7 b7 => Ok.ret ?_)
    rw [h7, b7]
  · refine Ok.bind (tally_1 hv hN hl he) (fun r5 h5 => ?_)
    rw [if_neg (by omega)]
    refine Ok.bind (flickerOf_ok h5.2.2.1.2.2 (BS_0 _ _ _ _) hF h5.2.2.2.2.2.2.1 hC2 h5.2.2.2.2.2.2.2 (by omega)) (fun r7 h7 => Ok.ret ⟨h5.2.1, ?_⟩)
    refine Ok.bind (evensAll_ok hs hv (by omega)) (fun a5 b5 => Ok.eqn (by omega) ?_)
    refine Ok.bind (flickerBy_ok b5.1.2.2 hs.2.2.1 hF b5.2.1 hC2 (by omega)) (fun a7 b7 => Ok.ret ?_)
    rw [h7, b7]
/-! steady -/
theorem steady_j {N : Nat} {d cu sk se we : Nat → Int} {W H F : Nat} {lk en many sz : Int} {c so fo su tg tb dt ac ar no og tc : Nat → Int} {th wm : Int} {me mc be mt mb mo ec ev : Nat → Int} {s : Nat → Int} {x1 : Int} (hs : SR s d cu sk se we W H F) (hv : FV d cu sk se we W H F) (hN : 400 < N) (hl : LkI d cu sk se we W H F lk c many so fo) (he : EnI d cu sk se we W H F en tg tb dt tc) (hx1 : -2147483648 ≤ x1 ∧ x1 < 2147483648) : Ok (fX11_steady N W H F d cu se sk we lk en c many so fo su tg tb dt sz ac ar no og tc x1) (fun r => EvT d cu sk se we W H F r.2 ∧ Ok (fX12_steady N s th wm me mc be mt mb mo ec ev x1) (fun q => r.1 = q.1)) := by
  have hF := hv.2.2.1
  have hS := size_b hv.1 hv.2.1
  unfold fX11_steady fX12_steady
  by_cases f1 : 0 ≤ x1 ∧ x1 < F
  · refine Ok.bind (hasFrame_t hF f1) (fun r1 h1 => Ok.eqn (by omega) ?_)
    obtain ⟨t, rfl⟩ : ∃ t : Nat, x1 = (t : Int) := ⟨x1.toNat, by omega⟩
    have ht : t < F := by omega
    refine Ok.bind (evened_ok hv hN hl he) (fun r8 h8 => Ok.bind (changedIn_ok hS.2 hF ht hv.2.2.2.1 (h8.2.2.2.db hv) (by omega)) (fun r9 h9 => ?_))
    rw [chS_cong (fun _ _ => rfl) (fun p hp => h8.2.2.2.2.2.1 t p ht hp)] at h9
    have hb := chS_b d (EV d cu sk se we W H F) (W * H) t
    have M : ∀ a : Int, (r9 = 0 → a = 1) → (r9 ≠ 0 → a = 0) → Ok ((fX12_isFrame N s t).bind fun r1 => (if iZ r1 = iZ 0 then (some (((-2), 0, wm, me, mc, be, mt, mb, mo, ec, ev))) else ((fX12_lays N s me mc be).bind fun r3 => ((fX12_evens N s r3.2.2 r3.2.1 wm mt mb mo ec ev t).bind fun r4 => ((fX12_changedOf N s r4.2.2.2.2.2 t).bind fun r5 => (if iZ r5 = iZ 0 then (some (((1 : Int), (0 : Int), r4.1, r3.1, r3.2.1, r3.2.2, r4.2.1, r4.2.2.1, r4.2.2.2.1, r4.2.2.2.2.1, r4.2.2.2.2.2))) else (some ((0, 0, r4.1, r3.1, r3.2.1, r3.2.2, r4.2.1, r4.2.2.1, r4.2.2.2.1, r4.2.2.2.2.1, r4.2.2.2.2.2))))))))) (fun q => a = q.1) := by
      intro a g1 g2
      refine Ok.bind (isFrame_t hs.2.2.1 hF f1) (fun a1 b1 => Ok.eqn (by omega) ?_)
      refine Ok.bind (mlays_ok hs hv (by omega)) (fun a3 b3 => Ok.bind (evens_ok hs hv b3 ht (by omega)) (fun a4 b4 => Ok.bind (changedE_ok hs hv ht (fun p hp => b4.1.2.2.2.2 p hp) (by omega)) (fun a5 b5 => ?_)))
      exact Ok.eq (by omega) (fun z => Ok.ret (g1 (by omega))) (fun z => Ok.ret (g2 (by omega)))
    exact Ok.eq (by omega) (fun q => Ok.ret ⟨⟨Or.inr ⟨h8.1, h8.2.1⟩, Or.inr h8.2.2⟩, M 1 (fun _ => rfl) (fun z => absurd q z)⟩) (fun q => Ok.ret ⟨⟨Or.inr ⟨h8.1, h8.2.1⟩, Or.inr h8.2.2⟩, M 0 (fun z => absurd z q) (fun _ => rfl)⟩)
  · exact Ok.bind (hasFrame_f hF hx1 f1) (fun r3 h3 => Ok.eqp h3 (Ok.ret ⟨⟨hl, he⟩, Ok.bind (isFrame_f hs.2.2.1 hF hx1 f1) (fun a3 b3 => Ok.eqp b3 (Ok.ret rfl))⟩))
/-! inverse -/
def ivS (g : Nat → Int) (x : Int) : Int := if lsF g x 16 < 16 then (lsF g x 16 : Int) else -1
theorem cinv_ok {N t : Nat} {d cu sk se we : Nat → Int} {W H F : Nat} {x2 : Int} (q : EvTy) (hv : FV d cu sk se we W H F) (hN : 400 < N) (ht : t < F) (hx2 : -2147483648 ≤ x2 ∧ x2 < 2147483648) (hq : EvT d cu sk se we W H F q) (htb : ∀ v, v < 16 → q.2.2.2.2.2.2.2.2.1 (16 * t + v) = TB d cu sk se we W H F t v) (hb : ∀ v, v < 16 → 0 ≤ TB d cu sk se we W H F t v ∧ TB d cu sk se we W H F t v ≤ 15) : Ok (fX11_inverse_L35 N W H F d cu se sk we t x2 (fX11_inverse_j64 N W H F d cu se sk we t x2) N 0 q.1 q.2.1 q.2.2.1 q.2.2.2.1 q.2.2.2.2.1 q.2.2.2.2.2.1 q.2.2.2.2.2.2.1 q.2.2.2.2.2.2.2.1 q.2.2.2.2.2.2.2.2.1 q.2.2.2.2.2.2.2.2.2.1 q.2.2.2.2.2.2.2.2.2.2.1 q.2.2.2.2.2.2.2.2.2.2.2.1 q.2.2.2.2.2.2.2.2.2.2.2.2.1 q.2.2.2.2.2.2.2.2.2.2.2.2.2.1 q.2.2.2.2.2.2.2.2.2.2.2.2.2.2.1 q.2.2.2.2.2.2.2.2.2.2.2.2.2.2.2) (fun r => r.1 = ivS (TB d cu sk se we W H F t) x2 ∧ EvT d cu sk se we W H F r.2) := by
  have hF := hv.2.2.1
  refine Ok.loop (fun m i (_ : Unit) => fX11_inverse_L35 N W H F d cu se sk we t x2 (fX11_inverse_j64 N W H F d cu se sk we t x2) m (i : Int) q.1 q.2.1 q.2.2.1 q.2.2.2.1 q.2.2.2.2.1 q.2.2.2.2.2.1 q.2.2.2.2.2.2.1 q.2.2.2.2.2.2.2.1 q.2.2.2.2.2.2.2.2.1 q.2.2.2.2.2.2.2.2.2.1 q.2.2.2.2.2.2.2.2.2.2.1 q.2.2.2.2.2.2.2.2.2.2.2.1 q.2.2.2.2.2.2.2.2.2.2.2.2.1 q.2.2.2.2.2.2.2.2.2.2.2.2.2.1 q.2.2.2.2.2.2.2.2.2.2.2.2.2.2.1 q.2.2.2.2.2.2.2.2.2.2.2.2.2.2.2) 16 (fun i _ => ∀ y, y < i → TB d cu sk se we W H F t y < x2) _ ?_ ?_ N 0 () (by omega) (by omega) (fun y hy => by omega)
  · intro m i _ hi hI ih
    show Ok (fX11_inverse_b35 N W H F d cu se sk we t x2 _ _ (i : Int) q.1 q.2.1 q.2.2.1 q.2.2.2.1 q.2.2.2.2.1 q.2.2.2.2.2.1 q.2.2.2.2.2.2.1 q.2.2.2.2.2.2.2.1 q.2.2.2.2.2.2.2.2.1 q.2.2.2.2.2.2.2.2.2.1 q.2.2.2.2.2.2.2.2.2.2.1 q.2.2.2.2.2.2.2.2.2.2.2.1 q.2.2.2.2.2.2.2.2.2.2.2.2.1 q.2.2.2.2.2.2.2.2.2.2.2.2.2.1 q.2.2.2.2.2.2.2.2.2.2.2.2.2.2.1 q.2.2.2.2.2.2.2.2.2.2.2.2.2.2.2) _
    unfold fX11_inverse_b35
    have hbi := hb i hi
    rw [show ((t : Int) * 16 + (i : Int)).toNat = 16 * t + i by omega, htb i hi]
    refine Ok.ltp (by omega) (Ok.gd (by omega) (Ok.lt (by omega) (fun z => ih () (fun y hy => ?_)) (fun z => Ok.ret ⟨?_, hq⟩)))
    · by_cases w : y = i
      · rw [w]; exact z
      · exact hI y (by omega)
    · unfold ivS
      rw [lsF_eq (w := i) (by omega) hI (fun _ => z), if_pos hi]
  · intro m _ hI
    show Ok (fX11_inverse_b35 N W H F d cu se sk we t x2 _ _ ((16 : Nat) : Int) q.1 q.2.1 q.2.2.1 q.2.2.2.1 q.2.2.2.2.1 q.2.2.2.2.2.1 q.2.2.2.2.2.2.1 q.2.2.2.2.2.2.2.1 q.2.2.2.2.2.2.2.2.1 q.2.2.2.2.2.2.2.2.2.1 q.2.2.2.2.2.2.2.2.2.2.1 q.2.2.2.2.2.2.2.2.2.2.2.1 q.2.2.2.2.2.2.2.2.2.2.2.2.1 q.2.2.2.2.2.2.2.2.2.2.2.2.2.1 q.2.2.2.2.2.2.2.2.2.2.2.2.2.2.1 q.2.2.2.2.2.2.2.2.2.2.2.2.2.2.2) _
    unfold fX11_inverse_b35 fX11_inverse_j64
    refine Ok.ltn (by omega) (Ok.ret ⟨?_, hq⟩)
    unfold ivS
    rw [lsF_eq (w := 16) (by omega) hI (fun z => by omega), if_neg (by omega)]
theorem minv_ok {N t : Nat} {s g : Nat → Int} {x2 : Int} {th wm : Int} {me mc be mt mb : Nat → Int} (hN : 400 < N) (hx2 : -2147483648 ≤ x2 ∧ x2 < 2147483648) (htb : ∀ v, v < 16 → mb v = g v) (hb : ∀ v, v < 16 → 0 ≤ g v ∧ g v ≤ 15) : Ok (fX12_inverse_L37 N s t x2 (fX12_inverse_j61 N s t x2) N 0 th wm me mc be mt mb) (fun r => r.1 = ivS g x2) := by
  refine Ok.loop (fun m i (_ : Unit) => fX12_inverse_L37 N s t x2 (fX12_inverse_j61 N s t x2) m (i : Int) th wm me mc be mt mb) 16 (fun i _ => ∀ y, y < i → g y < x2) _ ?_ ?_ N 0 () (by omega) (by omega) (fun y hy => by omega)
  · intro m i _ hi hI ih
    show Ok (fX12_inverse_b37 N s t x2 _ _ (i : Int) th wm me mc be mt mb) _
    unfold fX12_inverse_b37
    have hbi := hb i hi
    rw [Int.toNat_natCast, htb i hi]
    refine Ok.ltp (by omega) (Ok.gd (by omega) (Ok.lt (by omega) (fun z => ih () (fun y hy => ?_)) (fun z => Ok.ret ?_)))
    · by_cases w : y = i
      · rw [w]; exact z
      · exact hI y (by omega)
    · unfold ivS
      rw [lsF_eq (w := i) (by omega) hI (fun _ => z), if_pos hi]
  · intro m _ hI
    show Ok (fX12_inverse_b37 N s t x2 _ _ ((16 : Nat) : Int) th wm me mc be mt mb) _
    unfold fX12_inverse_b37 fX12_inverse_j61
    refine Ok.ltn (by omega) (Ok.ret ?_)
    unfold ivS
    rw [lsF_eq (w := 16) (by omega) hI (fun z => by omega), if_neg (by omega)]
theorem FV.TB_b {d cu sk se we : Nat → Int} {W H F : Nat} (hv : FV d cu sk se we W H F) (t : Nat) : ∀ v, v < 16 → 0 ≤ TB d cu sk se we W H F t v ∧ TB d cu sk se we W H F t v ≤ 15 := fun v hv2 => by
  unfold TB
  exact tbS_b hv.seV (by omega)
theorem mtable_ok {N t : Nat} {d cu sk se we : Nat → Int} {W H F : Nat} {s me mc be mt mb : Nat → Int} {wm : Int} (hs : SR s d cu sk se we W H F) (hv : FV d cu sk se we W H F) (hm : MlR d cu sk se we W H F me mc be) (ht : t < F) (hN : 40 < N) : Ok (fX12_laysTable N s be mc wm mt mb t) (fun r => r.1 = wiS sk se (BS d cu se (W * H)) F t ∧ (∀ v, v < 16 → r.2.1 v = TG d cu sk se we W H F t v) ∧ ∀ v, v < 16 → r.2.2 v = TB d cu sk se we W H F t v) := laysTable_ok (S := W * H) hs hv hm.2.2 hm.2.1 (CU_b (size_b hv.1 hv.2.1).2) (CU_m (fun t p ht hp => hv.2.2.2.1 t p ht hp)) (BS_0 _ _ _ _) ht hN
theorem inverse_j {N : Nat} {d cu sk se we : Nat → Int} {W H F : Nat} {lk en many sz : Int} {c so fo su tg tb dt ac ar no og tc : Nat → Int} {th wm : Int} {me mc be mt mb : Nat → Int} {s : Nat → Int} {x1 x2 : Int} (hs : SR s d cu sk se we W H F) (hv : FV d cu sk se we W H F) (hN : 400 < N) (hl : LkI d cu sk se we W H F lk c many so fo) (he : EnI d cu sk se we W H F en tg tb dt tc) (hx1 : -2147483648 ≤ x1 ∧ x1 < 2147483648) (hx2 : -2147483648 ≤ x2 ∧ x2 < 2147483648) : Ok (fX11_inverse N W H F d cu se sk we lk en c many so fo su tg tb dt sz ac ar no og tc x1 x2) (fun r => EvT d cu sk se we W H F r.2 ∧ Ok (fX12_inverse N s th wm me mc be mt mb x1 x2) (fun q => r.1 = q.1)) := by
  have hF := hv.2.2.1
  have hS := size_b hv.1 hv.2.1
  unfold fX11_inverse fX12_inverse
  by_cases f1 : 0 ≤ x1 ∧ x1 < F
  · refine Ok.bind (hasFrame_t hF f1) (fun r1 h1 => Ok.eqn (by omega) ?_)
    by_cases f2 : 0 ≤ x2 ∧ x2 < 16
    · refine Ok.bind (shade_t f2) (fun r3 h3 => Ok.eqn (by omega) ?_)
      obtain ⟨t, rfl⟩ : ∃ t : Nat, x1 = (t : Int) := ⟨x1.toNat, by omega⟩
      have ht : t < F := by omega
      refine Ok.bind (evened_ok hv hN hl he) (fun r8 h8 => ?_)
      refine Ok.mono (cinv_ok r8 hv hN ht hx2 ⟨Or.inr ⟨h8.1, h8.2.1⟩, Or.inr h8.2.2⟩ (fun v hv2 => h8.2.2.2.2.1 t v ht hv2) (hv.TB_b t)) (fun r hr => ⟨hr.2, ?_⟩)
      refine Ok.bind (isFrame_t hs.2.2.1 hF f1) (fun a1 b1 => Ok.eqn (by omega) (Ok.bind (mshade_t f2) (fun a3 b3 => Ok.eqn (by omega) (Ok.bind (mlays_ok hs hv (by omega)) (fun a5 b5 => Ok.bind (mtable_ok hs hv b5 ht (by omega)) (fun a6 b6 => ?_))))))
      exact Ok.mono (minv_ok hN hx2 b6.2.2 (hv.TB_b t)) (fun q hq => by rw [hr.1, hq])
    · exact Ok.bind (shade_f hx2 f2) (fun r3 h3 => Ok.eqp h3 (Ok.ret ⟨⟨hl, he⟩, Ok.bind (isFrame_t hs.2.2.1 hF f1) (fun a1 b1 => Ok.eqn (by omega) (Ok.bind (mshade_f hx2 f2) (fun a3 b3 => Ok.eqp b3 (Ok.ret rfl))))⟩))
  · exact Ok.bind (hasFrame_f hF hx1 f1) (fun r3 h3 => Ok.eqp h3 (Ok.ret ⟨⟨hl, he⟩, Ok.bind (isFrame_f hs.2.2.1 hF hx1 f1) (fun a3 b3 => Ok.eqp b3 (Ok.ret rfl))⟩))
/-! scene -/
theorem mscene_ok {N F a : Nat} {b : Nat → Bool} {s me mc be : Nat → Int} {th : Int} (hb : BeR b F be) (s2 : s 2 = (F : Int)) (hF : F ≤ 24) (hN : 400 < N) (ha : a < F) (hba : b a = true) : Ok (fX12_scene_L29 N s (ctB b a : Int) (fX12_scene_j65 N s (ctB b a : Int)) N 0 th me mc be) (fun r => r.1 = (a : Int)) := by
  have hle : ∀ n, ctB b n ≤ n := ctB_le b
  refine Ok.loop (fun m i (_ : Unit) => fX12_scene_L29 N s (ctB b a : Int) (fX12_scene_j65 N s (ctB b a : Int)) m (i : Int) th me mc be) a (fun _ _ => True) _ ?_ ?_ N 0 () (by omega) (by omega) trivial
  · intro m i _ hi _ ih
    show Ok (fX12_scene_b29 N s (ctB b a : Int) _ _ (i : Int) th me mc be) _
    unfold fX12_scene_b29
    rw [(show ((2 : Int)).toNat = 2 from rfl), s2, Int.toNat_natCast]
    refine Ok.gd (by omega) (Ok.ltp (by omega) (Ok.gd (by omega) ?_))
    rcases hb.cases (t := i) (by omega) with ⟨q, q2⟩ | ⟨q, q2⟩
    · refine Ok.eqn (by omega) (Ok.bind (sceneOf_ok hb hF (by omega) (by omega)) (fun r8 h8 => ?_))
      have h1 := ctB_mono b (show i + 1 ≤ a by omega)
      have h2 := hle a
      exact Ok.eqn (by have h3 := ctB_succ b i; rw [q] at h3; have h4 : ctB b (i + 1) = ctB b i + 1 := h3; omega) (ih () trivial)
    · exact Ok.eqp q2 (ih () trivial)
  · intro m _ _
    show Ok (fX12_scene_b29 N s (ctB b a : Int) _ _ (a : Int) th me mc be) _
    unfold fX12_scene_b29
    rw [(show ((2 : Int)).toNat = 2 from rfl), s2, Int.toNat_natCast]
    refine Ok.gd (by omega) (Ok.ltp (by omega) (Ok.gd (by omega) ?_))
    rcases hb.cases ha with ⟨q, q2⟩ | ⟨q, q2⟩
    · refine Ok.eqn (by omega) (Ok.bind (sceneOf_ok hb hF ha (by omega)) (fun r8 h8 => ?_))
      have h3 := ctB_succ b a
      rw [q] at h3
      have h4 : ctB b (a + 1) = ctB b a + 1 := h3
      exact Ok.eqp (by omega) (Ok.ret rfl)
    · rw [hba] at q; exact absurd q (by decide)
theorem mscene_none {N F : Nat} {b : Nat → Bool} {s me mc be : Nat → Int} {th x : Int} (hb : BeR b F be) (s2 : s 2 = (F : Int)) (hF : F ≤ 24) (hN : 400 < N) (hx : (ctB b F : Int) ≤ x) (hx2 : x < 2147483648) : Ok (fX12_scene_L29 N s x (fX12_scene_j65 N s x) N 0 th me mc be) (fun r => r.1 = -1) := by
  refine Ok.loop (fun m i (_ : Unit) => fX12_scene_L29 N s x (fX12_scene_j65 N s x) m (i : Int) th me mc be) F (fun _ _ => True) _ ?_ ?_ N 0 () (by omega) (by omega) trivial
  · intro m i _ hi _ ih
    show Ok (fX12_scene_b29 N s x _ _ (i : Int) th me mc be) _
    unfold fX12_scene_b29
    rw [(show ((2 : Int)).toNat = 2 from rfl), s2, Int.toNat_natCast]
    refine Ok.gd (by omega) (Ok.ltp (by omega) (Ok.gd (by omega) ?_))
    rcases hb.cases (t := i) (by omega) with ⟨q, q2⟩ | ⟨q, q2⟩
    · refine Ok.eqn (by omega) (Ok.bind (sceneOf_ok hb hF (by omega) (by omega)) (fun r8 h8 => ?_))
      have h1 := ctB_mono b (show i + 1 ≤ F by omega)
      have h2 := ctB_le b F
      exact Ok.eqn (by omega) (ih () trivial)
    · exact Ok.eqp q2 (ih () trivial)
  · intro m _ _
    show Ok (fX12_scene_b29 N s x _ _ (F : Int) th me mc be) _
    unfold fX12_scene_b29 fX12_scene_j65
    rw [(show ((2 : Int)).toNat = 2 from rfl), s2]
    exact Ok.gd (by omega) (Ok.ltn (by omega) (Ok.ret rfl))
theorem scene_j {N : Nat} {d cu sk se we : Nat → Int} {W H F : Nat} {lk many th : Int} {c so fo me mc be : Nat → Int} {s : Nat → Int} {x1 : Int} (hs : SR s d cu sk se we W H F) (hv : FV d cu sk se we W H F) (hN : 400 < N) (hl : LkI d cu sk se we W H F lk c many so fo) (hx1 : -2147483648 ≤ x1 ∧ x1 < 2147483648) : Ok (fX11_scene N W H F d cu se lk c many so fo x1) (fun r => LkI d cu sk se we W H F r.2.1 r.2.2.1 r.2.2.2.1 r.2.2.2.2.1 r.2.2.2.2.2 ∧ Ok (fX12_scene N s th me mc be x1) (fun q => r.1 = q.1)) := by
  have hF := hv.2.2.1
  unfold fX11_scene fX12_scene
  refine Ok.lt (by omega) (fun q => Ok.ret ⟨hl, Ok.ltp (by omega) (Ok.ret rfl)⟩) (fun q => ?_)
  refine Ok.bind (looked_ok hv hN hl) (fun r2 h2 => ?_)
  have hmany := h2.2.2.2.1
  have hle := ctB_le (BS d cu se (W * H)) F
  refine Ok.eq (by omega) (fun q1 => Ok.ret ⟨Or.inr h2, ?_⟩) (fun q1 => ?_)
  · exact Ok.ltn (by omega) (Ok.bind (mlays_ok hs hv (by omega)) (fun a2 b2 => Ok.eqp q1 (Ok.bind (scenes_ok b2.2.2 hF hs.2.2.1 (by omega)) (fun a3 b3 => Ok.ret (by rw [hmany, b3])))))
  · rw [hmany]
    refine Ok.lt (by omega) (fun q2 => Ok.gd (by omega) (Ok.ret ⟨Or.inr ⟨h2.1, h2.2.1, h2.2.2.1, h2.2.2.2.1.symm ▸ h2.2.2.2⟩, ?_⟩)) (fun q2 => Ok.ret ⟨Or.inr ⟨h2.1, h2.2.1, h2.2.2.1, h2.2.2.2.1.symm ▸ h2.2.2.2⟩, ?_⟩)
    · obtain ⟨k, rfl⟩ : ∃ k : Nat, x1 = (k : Int) := ⟨x1.toNat, by omega⟩
      obtain ⟨a, a1, a2, a3⟩ := scene_ex (b := BS d cu se (W * H)) F k (by omega)
      refine Ok.ltn (by omega) (Ok.bind (mlays_ok hs hv (by omega)) (fun r5 h5 => Ok.eqn (by omega) ?_))
      rw [Int.toNat_natCast, ← a3, h2.2.2.2.2.2.1 a a1 a2]
      exact Ok.mono (mscene_ok h5.2.2 hs.2.2.1 hF hN a1 a2) (fun q hq => hq.symm)
    · refine Ok.ltn (by omega) (Ok.bind (mlays_ok hs hv (by omega)) (fun r5 h5 => Ok.eqn (by omega) ?_))
      exact Ok.mono (mscene_none h5.2.2 hs.2.2.1 hF hN q2 (by omega)) (fun q hq => hq.symm)
/-! key -/
theorem key_j {N : Nat} {d cu sk se we : Nat → Int} {W H F : Nat} {lk many th : Int} {c so fo su me mc be : Nat → Int} {s : Nat → Int} {x1 : Int} (hs : SR s d cu sk se we W H F) (hv : FV d cu sk se we W H F) (hN : 400 < N) (hl : LkI d cu sk se we W H F lk c many so fo) (hx1 : -2147483648 ≤ x1 ∧ x1 < 2147483648) : Ok (fX11_key N W H F d cu se lk c many so fo su x1) (fun r => LkI d cu sk se we W H F r.2.1 r.2.2.1 r.2.2.2.1 r.2.2.2.2.1 r.2.2.2.2.2.1 ∧ Ok (fX12_key N s th me mc be x1) (fun q => r.1 = q.1)) := by
  have hF := hv.2.2.1
  have hC := CU_b (d := d) (size_b hv.1 hv.2.1).2
  unfold fX11_key fX12_key
  refine Ok.bind (looked_ok hv hN hl) (fun r2 h2 => ?_)
  have hmany := h2.2.2.2.1
  have hle := ctB_le (BS d cu se (W * H)) F
  have M0 : ¬ (0 ≤ x1 ∧ x1 < (ctB (BS d cu se (W * H)) F : Int)) → Ok ((fX12_lays N s me mc be).bind fun r1 => ((fX12_scenes N s r1.2.2).bind fun r2 => ((fX12_isIn N x1 0 (r2 - 1)).bind fun r3 => (if iZ r3 = iZ 0 then (some (((-2 : Int), (0 : Int), r1.1, r1.2.1, r1.2.2))) else ((fX12_keyOf N r1.2.2 s r1.2.1 x1).bind fun r5 => (some ((r5, 0, r1.1, r1.2.1, r1.2.2)))))))) (fun q => -2 = q.1) := fun hn =>
    Ok.bind (mlays_ok hs hv (by omega)) (fun a1 b1 => Ok.bind (scenes_ok b1.2.2 hF hs.2.2.1 (by omega)) (fun a2 b2 => Ok.bind (isIn_f (by omega) (by omega)) (fun a3 b3 => Ok.eqp b3 (Ok.ret rfl))))
  refine Ok.lt (by omega) (fun q => Ok.ret ⟨Or.inr h2, M0 (by omega)⟩) (fun q => ?_)
  refine Ok.lt (by omega) (fun q2 => ?_) (fun q2 => Ok.ret ⟨Or.inr h2, M0 (by omega)⟩)
  obtain ⟨k, rfl⟩ : ∃ k : Nat, x1 = (k : Int) := ⟨x1.toNat, by omega⟩
  obtain ⟨a, a1, a2, a3⟩ := scene_ex (b := BS d cu se (W * H)) F k (by omega)
  rw [← a3]
  refine Ok.bind (keyS_ok h2.2.1 hC h2.2.2.1 hF h2.2.2.2 a1 a2 (by omega)) (fun r4 h4 => Ok.ret ⟨Or.inr h2, ?_⟩)
  refine Ok.bind (mlays_ok hs hv (by omega)) (fun c1 b1 => Ok.bind (scenes_ok b1.2.2 hF hs.2.2.1 (by omega)) (fun c2 b2 => Ok.bind (isIn_t (by omega) (by omega)) (fun c3 b3 => Ok.eqn (by omega) ?_)))
  exact Ok.bind (keyOf_ok b1.2.2 b1.2.1 hC hF hs.2.2.1 a1 (BS_0 _ _ _ _) a2 (by omega)) (fun c5 b5 => Ok.ret (by rw [h4, b5]))
/-! rank -/
theorem rank_j {N : Nat} {d cu sk se we : Nat → Int} {W H F : Nat} {lk many th sz : Int} {c so fo ac ar no og mo : Nat → Int} {s : Nat → Int} {x1 x2 : Int} (hs : SR s d cu sk se we W H F) (hv : FV d cu sk se we W H F) (hN : 400 < N) (hl : LkI d cu sk se we W H F lk c many so fo) (hx1 : -2147483648 ≤ x1 ∧ x1 < 2147483648) (hx2 : -2147483648 ≤ x2 ∧ x2 < 2147483648) : Ok (fX11_rank N W H F d cu se lk c many so fo sz ac ar no og x1 x2) (fun r => LkI d cu sk se we W H F r.2.1 r.2.2.1 r.2.2.2.1 r.2.2.2.2.1 r.2.2.2.2.2.1 ∧ Ok (fX12_rank N s th mo x1 x2) (fun q => r.1 = q.1)) := by
  have hF := hv.2.2.1
  have hS := size_b hv.1 hv.2.1
  unfold fX11_rank fX12_rank
  by_cases f1 : 0 ≤ x1 ∧ x1 < F
  · refine Ok.bind (hasFrame_t hF f1) (fun r1 h1 => Ok.eqn (by omega) ?_)
    by_cases f2 : 0 ≤ x2 ∧ x2 < ((W * H : Nat) : Int)
    · refine Ok.bind (hasPlace_t hS.2 f2) (fun r3 h3 => Ok.eqn (by omega) ?_)
      obtain ⟨t, rfl⟩ : ∃ t : Nat, x1 = (t : Int) := ⟨x1.toNat, by omega⟩
      obtain ⟨p, rfl⟩ : ∃ p : Nat, x2 = (p : Int) := ⟨x2.toNat, by omega⟩
      have ht : t < F := by omega
      have hp : p < W * H := by omega
      refine Ok.bind (looked_ok hv hN hl) (fun r5 h5 => Ok.bind (order_ok hv.1 hv.2.1 (by omega) ht (by omega) (hv.dB ht) h5.2.1) (fun r6 h6 => ?_))
      rw [h6.1]
      refine Ok.bind (ofind_ok hS.2 hp (by omega) h6.2) (fun r7 h7 => Ok.ret ⟨Or.inr h5, ?_⟩)
      refine Ok.bind (isFrame_t hs.2.2.1 hF f1) (fun a1 b1 => Ok.eqn (by omega) (Ok.bind (isPlace_t hs hS.2 f2) (fun a3 b3 => Ok.eqn (by omega) (Ok.bind (laysOrders_ok hs hv ht (by omega)) (fun a5 b5 => Ok.bind (rankOf_ok hs hv ht hp (by omega) b5) (fun a6 b6 => Ok.ret ?_))))))
      rw [h7, b6]
    · exact Ok.bind (hasPlace_f hS.2 hx2 f2) (fun r3 h3 => Ok.eqp h3 (Ok.ret ⟨hl, Ok.bind (isFrame_t hs.2.2.1 hF f1) (fun a1 b1 => Ok.eqn (by omega) (Ok.bind (isPlace_f hs hS.2 hx2 f2) (fun a3 b3 => Ok.eqp b3 (Ok.ret rfl))))⟩))
  · exact Ok.bind (hasFrame_f hF hx1 f1) (fun r3 h3 => Ok.eqp h3 (Ok.ret ⟨hl, Ok.bind (isFrame_f hs.2.2.1 hF hx1 f1) (fun a3 b3 => Ok.eqp b3 (Ok.ret rfl))⟩))
end PG
