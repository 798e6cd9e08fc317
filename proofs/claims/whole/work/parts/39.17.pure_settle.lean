/-! Settling; what is lost. -/
section PO
/-- settling: the chain up to where nothing changes, or 21 takes -/
def StP (d cu sk se we : Nat → Int) (W H F : Nat) (a : Int) : Prop := ∃ (x : Nat → Nat → Int) (m : Nat), x 0 = d ∧ ChR cu sk se we W H F x m ∧ (∀ k, k < m → CG (x k) cu sk se we W H F ≠ 0) ∧ ((m ≤ 20 ∧ CG (x m) cu sk se we W H F = 0 ∧ a = (m : Int)) ∨ (m = 21 ∧ a = -1))
theorem csettles {N : Nat} {d cu sk se we : Nat → Int} {W H F : Nat} {d0 cu0 sk0 se0 we0 : Nat → Int} (q : EvTy) (hv : FV d cu sk se we W H F) (hN : 400 < N) (hl : q.1 = 0) (he : q.2.1 = 0) : Ok (fX11_settles_L6 N W H F d0 cu0 sk0 se0 we0 (fX11_settles_j27 N W H F d0 cu0 sk0 se0 we0) N 0 W H F d cu sk se we q.1 q.2.1 q.2.2.1 q.2.2.2.1 q.2.2.2.2.1 q.2.2.2.2.2.1 q.2.2.2.2.2.2.1 q.2.2.2.2.2.2.2.1 q.2.2.2.2.2.2.2.2.1 q.2.2.2.2.2.2.2.2.2.1 q.2.2.2.2.2.2.2.2.2.2.1 q.2.2.2.2.2.2.2.2.2.2.2.1 q.2.2.2.2.2.2.2.2.2.2.2.2.1 q.2.2.2.2.2.2.2.2.2.2.2.2.2.1 q.2.2.2.2.2.2.2.2.2.2.2.2.2.2.1 q.2.2.2.2.2.2.2.2.2.2.2.2.2.2.2) (fun r => StP d cu sk se we W H F r.1) := by
  refine Ok.loop (fun m i (a : (Nat → Int) × EvTy) => fX11_settles_L6 N W H F d0 cu0 sk0 se0 we0 (fX11_settles_j27 N W H F d0 cu0 sk0 se0 we0) m (i : Int) W H F a.1 cu sk se we a.2.1 a.2.2.1 a.2.2.2.1 a.2.2.2.2.1 a.2.2.2.2.2.1 a.2.2.2.2.2.2.1 a.2.2.2.2.2.2.2.1 a.2.2.2.2.2.2.2.2.1 a.2.2.2.2.2.2.2.2.2.1 a.2.2.2.2.2.2.2.2.2.2.1 a.2.2.2.2.2.2.2.2.2.2.2.1 a.2.2.2.2.2.2.2.2.2.2.2.2.1 a.2.2.2.2.2.2.2.2.2.2.2.2.2.1 a.2.2.2.2.2.2.2.2.2.2.2.2.2.2.1 a.2.2.2.2.2.2.2.2.2.2.2.2.2.2.2.1 a.2.2.2.2.2.2.2.2.2.2.2.2.2.2.2.2) 21 (fun i a => a.2.1 = 0 ∧ a.2.2.1 = 0 ∧ ∃ x : Nat → Nat → Int, x 0 = d ∧ ChR cu sk se we W H F x i ∧ x i = a.1 ∧ ∀ k, k < i → CG (x k) cu sk se we W H F ≠ 0) _ ?_ ?_ N 0 (d, q) (by omega) (by omega) ⟨hl, he, fun _ => d, rfl, ⟨hv, fun k hk => by omega⟩, rfl, fun k hk => by omega⟩
  · intro m i a hi hI ih
    obtain ⟨i1, i2, x, i3, i4, i5, i6⟩ := hI
    show Ok (fX11_settles_b6 N W H F d0 cu0 sk0 se0 we0 _ _ (i : Int) W H F a.1 cu sk se we a.2.1 a.2.2.1 a.2.2.2.1 a.2.2.2.2.1 a.2.2.2.2.2.1 a.2.2.2.2.2.2.1 a.2.2.2.2.2.2.2.1 a.2.2.2.2.2.2.2.2.1 a.2.2.2.2.2.2.2.2.2.1 a.2.2.2.2.2.2.2.2.2.2.1 a.2.2.2.2.2.2.2.2.2.2.2.1 a.2.2.2.2.2.2.2.2.2.2.2.2.1 a.2.2.2.2.2.2.2.2.2.2.2.2.2.1 a.2.2.2.2.2.2.2.2.2.2.2.2.2.2.1 a.2.2.2.2.2.2.2.2.2.2.2.2.2.2.2.1 a.2.2.2.2.2.2.2.2.2.2.2.2.2.2.2.2) _
    unfold fX11_settles_b6
    have hvi : FV a.1 cu sk se we W H F := by rw [← i5]; exact i4.fv i (by omega)
    refine Ok.ltn (by omega) (Ok.bind (takeTrial_ok hvi hN i1 i2) (fun r5 h5 => ?_))
    obtain ⟨h5a, h5b, h5c, h5d⟩ := h5
    have hcb := hvi.cg_b
    refine Ok.eq (by omega) (fun z => Ok.ret ⟨x, i, i3, i4, i6, Or.inl ⟨by omega, by rw [i5, ← h5a]; exact z, rfl⟩⟩) (fun z => ?_)
    obtain ⟨x', c1, c2, c3⟩ := i4.ext (y := r5.2.2.2.2.1) (by rw [i5]; exact h5d)
    refine ih (r5.2.2.2.2.1, r5.2.1, r5.2.2.1, r5.2.2.2.1, r5.2.2.2.2.2.1, r5.2.2.2.2.2.2.1, r5.2.2.2.2.2.2.2.1, r5.2.2.2.2.2.2.2.2.1, r5.2.2.2.2.2.2.2.2.2.1, r5.2.2.2.2.2.2.2.2.2.2.1, r5.2.2.2.2.2.2.2.2.2.2.2.1, r5.2.2.2.2.2.2.2.2.2.2.2.2.1, r5.2.2.2.2.2.2.2.2.2.2.2.2.2.1, r5.2.2.2.2.2.2.2.2.2.2.2.2.2.2.1, r5.2.2.2.2.2.2.2.2.2.2.2.2.2.2.2.1, r5.2.2.2.2.2.2.2.2.2.2.2.2.2.2.2.2.1, r5.2.2.2.2.2.2.2.2.2.2.2.2.2.2.2.2.2) ⟨h5b, h5c, x', by rw [c2 0 (by omega)]; exact i3, c1, c3, fun k hk => ?_⟩
    rw [c2 k (by omega)]
    by_cases w : k = i
    · rw [w, i5, ← h5a]; exact z
    · exact i6 k (by omega)
  · intro m a hI
    obtain ⟨i1, i2, x, i3, i4, i5, i6⟩ := hI
    show Ok (fX11_settles_b6 N W H F d0 cu0 sk0 se0 we0 _ _ ((21 : Nat) : Int) W H F a.1 cu sk se we a.2.1 a.2.2.1 a.2.2.2.1 a.2.2.2.2.1 a.2.2.2.2.2.1 a.2.2.2.2.2.2.1 a.2.2.2.2.2.2.2.1 a.2.2.2.2.2.2.2.2.1 a.2.2.2.2.2.2.2.2.2.1 a.2.2.2.2.2.2.2.2.2.2.1 a.2.2.2.2.2.2.2.2.2.2.2.1 a.2.2.2.2.2.2.2.2.2.2.2.2.1 a.2.2.2.2.2.2.2.2.2.2.2.2.2.1 a.2.2.2.2.2.2.2.2.2.2.2.2.2.2.1 a.2.2.2.2.2.2.2.2.2.2.2.2.2.2.2.1 a.2.2.2.2.2.2.2.2.2.2.2.2.2.2.2.2) _
    unfold fX11_settles_b6 fX11_settles_j27
    exact Ok.ltp (by omega) (Ok.ret ⟨x, 21, i3, i4, i6, Or.inr ⟨rfl, rfl⟩⟩)
theorem msettles {N : Nat} {d cu sk se we : Nat → Int} {W H F : Nat} {th wm : Int} {me mc be mt mb mo ec ev : Nat → Int} {s sv : Nat → Int} {x : Nat → Nat → Int} {k : Nat} {a0 : Int} (hN : 12000 < N) (hs : SR s (x 0) cu sk se we W H F) (hc : ChR cu sk se we W H F x k) (h1 : ∀ j, j < k → CG (x j) cu sk se we W H F ≠ 0) (h0 : (k ≤ 20 ∧ CG (x k) cu sk se we W H F = 0 ∧ a0 = (k : Int)) ∨ (k = 21 ∧ a0 = -1)) : Ok (fX12_settles_L11 N (fX12_settles_j30 N) N 0 th wm s sv me mc be mt mb mo ec ev) (fun r => r.1 = a0 ∧ ∀ j, j < 1551 → r.2.2.2.1 j = sv j) := by
  have hk : k ≤ 21 := by omega
  refine Ok.loop (fun m i (a : Int × (Nat → Int) × (Nat → Int) × (Nat → Int) × (Nat → Int) × (Nat → Int) × (Nat → Int) × (Nat → Int) × (Nat → Int) × (Nat → Int)) => fX12_settles_L11 N (fX12_settles_j30 N) m (i : Int) th a.1 a.2.1 sv a.2.2.1 a.2.2.2.1 a.2.2.2.2.1 a.2.2.2.2.2.1 a.2.2.2.2.2.2.1 a.2.2.2.2.2.2.2.1 a.2.2.2.2.2.2.2.2.1 a.2.2.2.2.2.2.2.2.2) k (fun i a => SR a.2.1 (x i) cu sk se we W H F) _ ?_ ?_ N 0 (wm, s, me, mc, be, mt, mb, mo, ec, ev) (by omega) (by omega) hs
  · intro m i a hi hI ih
    show Ok (fX12_settles_b11 N _ _ (i : Int) th a.1 a.2.1 sv a.2.2.1 a.2.2.2.1 a.2.2.2.2.1 a.2.2.2.2.2.1 a.2.2.2.2.2.2.1 a.2.2.2.2.2.2.2.1 a.2.2.2.2.2.2.2.2.1 a.2.2.2.2.2.2.2.2.2) _
    unfold fX12_settles_b11
    have hvi := hc.fv i (by omega)
    have hcb := hvi.cg_b
    have hne := h1 i hi
    refine Ok.ltn (by omega) (Ok.bind (takes_ok hI hvi (by omega)) (fun r5 h5 => ?_))
    have h5a : r5.1 = CG (x i) cu sk se we W H F := h5.1
    exact Ok.ltp (by omega) (ih (_, _, _, _, _, _, _, _, _, _) (h5.2.cong (hc.2 i hi)))
  · intro m a hI
    show Ok (fX12_settles_b11 N _ _ (k : Int) th a.1 a.2.1 sv a.2.2.1 a.2.2.2.1 a.2.2.2.2.1 a.2.2.2.2.2.1 a.2.2.2.2.2.2.1 a.2.2.2.2.2.2.2.1 a.2.2.2.2.2.2.2.2.1 a.2.2.2.2.2.2.2.2.2) _
    unfold fX12_settles_b11 fX12_settles_j30
    rcases h0 with ⟨z1, z2, z3⟩ | ⟨z1, z2⟩
    · have hvi := hc.fv k (by omega)
      refine Ok.ltn (by omega) (Ok.bind (takes_ok hI hvi (by omega)) (fun r5 h5 => ?_))
      have h5a : r5.1 = CG (x k) cu sk se we W H F := h5.1
      exact Ok.ltn (by omega) (Ok.bind (comesBack_ok hN) (fun r8 h8 => Ok.ltn (by omega) (Ok.ret ⟨z3.symm, h8⟩)))
    · exact Ok.ltp (by omega) (Ok.bind (comesBack_ok hN) (fun r8 h8 => Ok.ltp (by omega) (Ok.ret ⟨z2.symm, h8⟩)))
theorem settles_j {N : Nat} {d cu sk se we : Nat → Int} {W H F : Nat} {w2 h2 f2 : Int} {d2 cu2 sk2 se2 we2 : Nat → Int} {lk en many sz : Int} {c so fo su tg tb dt ac ar no og tc : Nat → Int} {th wm : Int} {me mc be mt mb mo ec ev : Nat → Int} {s sv : Nat → Int} (hs : SR s d cu sk se we W H F) (hv : FV d cu sk se we W H F) (hN : 12000 < N) : Ok (fX11_settles N W H F d cu sk se we w2 h2 f2 d2 cu2 sk2 se2 we2 lk en c many so fo su tg tb dt sz ac ar no og tc) (fun r => Ok (fX12_settles N th wm s sv me mc be mt mb mo ec ev) (fun q => r.1 = q.1 ∧ SR q.2.2.2.1 d cu sk se we W H F)) := by
  have hF := hv.2.2.1
  have hS := size_b hv.1 hv.2.1
  unfold fX11_settles fX12_settles
  refine Ok.bind (beginTrial_ok hv) (fun r1 h1 => ?_)
  obtain ⟨w', h', f', d', cu', sk', se', we', l', e'⟩ := r1
  have g1 : w' = (W : Int) := h1.1
  have g2 : h' = (H : Int) := h1.2.1
  have g3 : f' = (F : Int) := h1.2.2.1
  have g4 : FQ d cu sk se we d' cu' sk' se' we' W H F := h1.2.2.2.1
  have g5 : l' = 0 := h1.2.2.2.2.1
  have g6 : e' = 0 := h1.2.2.2.2.2
  subst g1 g2 g3
  refine Ok.mono (csettles (d := d') (cu := cu') (sk := sk') (se := se') (we := we') (l', e', c, many, so, fo, su, tg, tb, dt, sz, ac, ar, no, og, tc) (hv.eq g4) (by omega) g5 g6) (fun r hr => ?_)
  obtain ⟨x, m, a1, a2, a3, a4⟩ := hr
  refine Ok.bind (laysAside_ok hN) (fun b3 c3 => ?_)
  exact Ok.mono (msettles (d := d) hN (by rw [a1]; exact hs.eq g4) a2 a3 a4) (fun q hq => ⟨by rw [hq.1], hs.row hF hS.2 (fun k hk => by rw [hq.2 k hk, c3 k hk])⟩)
/-! lost -/
noncomputable def mtB (C tb : Nat → Int) (t : Nat) : Nat → Bool := fun v => pB (meS C tb t v)
theorem clost {N t : Nat} {d cu sk se we : Nat → Int} {W H F : Nat} {C g : Nat → Int} (q : EvTy) (hF : F ≤ 24) (hN : 400 < N) (ht : t < F) (hc : CR C F q.2.2.1) (hC : RowB C) (hn : ∀ v, v < 16 → 0 ≤ numS C t v) (htb : ∀ v, v < 16 → q.2.2.2.2.2.2.2.2.1 (16 * t + v) = g v) (hg : ∀ v, v < 16 → 0 ≤ g v ∧ g v ≤ 15) : Ok (fX11_lost_L24 N W H F d cu se sk we t (fX11_lost_j55 N W H F d cu se sk we t) N 0 0 q.1 q.2.1 q.2.2.1 q.2.2.2.1 q.2.2.2.2.1 q.2.2.2.2.2.1 q.2.2.2.2.2.2.1 q.2.2.2.2.2.2.2.1 q.2.2.2.2.2.2.2.2.1 q.2.2.2.2.2.2.2.2.2.1 q.2.2.2.2.2.2.2.2.2.2.1 q.2.2.2.2.2.2.2.2.2.2.2.1 q.2.2.2.2.2.2.2.2.2.2.2.2.1 q.2.2.2.2.2.2.2.2.2.2.2.2.2.1 q.2.2.2.2.2.2.2.2.2.2.2.2.2.2.1 q.2.2.2.2.2.2.2.2.2.2.2.2.2.2.2) (fun r => r.1 = (ctB (mtB C g t) 16 : Int) ∧ r.2 = q) := by
  refine Ok.loop (fun m i a => fX11_lost_L24 N W H F d cu se sk we t (fX11_lost_j55 N W H F d cu se sk we t) m a (i : Int) q.1 q.2.1 q.2.2.1 q.2.2.2.1 q.2.2.2.2.1 q.2.2.2.2.2.1 q.2.2.2.2.2.2.1 q.2.2.2.2.2.2.2.1 q.2.2.2.2.2.2.2.2.1 q.2.2.2.2.2.2.2.2.2.1 q.2.2.2.2.2.2.2.2.2.2.1 q.2.2.2.2.2.2.2.2.2.2.2.1 q.2.2.2.2.2.2.2.2.2.2.2.2.1 q.2.2.2.2.2.2.2.2.2.2.2.2.2.1 q.2.2.2.2.2.2.2.2.2.2.2.2.2.2.1 q.2.2.2.2.2.2.2.2.2.2.2.2.2.2.2) 16 (fun i a => a = (ctB (mtB C g t) i : Int)) _ ?_ ?_ N 0 0 (by omega) (by omega) rfl
  · intro m i a hi hI ih
    show Ok (fX11_lost_b24 N W H F d cu se sk we t _ _ a (i : Int) q.1 q.2.1 q.2.2.1 q.2.2.2.1 q.2.2.2.2.1 q.2.2.2.2.2.1 q.2.2.2.2.2.2.1 q.2.2.2.2.2.2.2.1 q.2.2.2.2.2.2.2.2.1 q.2.2.2.2.2.2.2.2.2.1 q.2.2.2.2.2.2.2.2.2.2.1 q.2.2.2.2.2.2.2.2.2.2.2.1 q.2.2.2.2.2.2.2.2.2.2.2.2.1 q.2.2.2.2.2.2.2.2.2.2.2.2.2.1 q.2.2.2.2.2.2.2.2.2.2.2.2.2.2.1 q.2.2.2.2.2.2.2.2.2.2.2.2.2.2.2) _
    unfold fX11_lost_b24
    refine Ok.ltp (by omega) (Ok.bind (meets_ok hc hC hn hF ht hi htb hg (by omega)) (fun r4 h4 => ?_))
    rcases h4 with ⟨z, z2⟩ | ⟨z, z2⟩
    · exact Ok.eqn (by omega) (ih _ (by rw [ct_t (b := mtB C g t) (n := i) (pB_t z2), hI]))
    · exact Ok.eqp z (ih _ (by rw [ct_f (b := mtB C g t) (n := i) (pB_f z2), hI]))
  · intro m a hI
    show Ok (fX11_lost_b24 N W H F d cu se sk we t _ _ a ((16 : Nat) : Int) q.1 q.2.1 q.2.2.1 q.2.2.2.1 q.2.2.2.2.1 q.2.2.2.2.2.1 q.2.2.2.2.2.2.1 q.2.2.2.2.2.2.2.1 q.2.2.2.2.2.2.2.2.1 q.2.2.2.2.2.2.2.2.2.1 q.2.2.2.2.2.2.2.2.2.2.1 q.2.2.2.2.2.2.2.2.2.2.2.1 q.2.2.2.2.2.2.2.2.2.2.2.2.1 q.2.2.2.2.2.2.2.2.2.2.2.2.2.1 q.2.2.2.2.2.2.2.2.2.2.2.2.2.2.1 q.2.2.2.2.2.2.2.2.2.2.2.2.2.2.2) _
    unfold fX11_lost_b24 fX11_lost_j55
    exact Ok.ltn (by omega) (Ok.ret ⟨hI, rfl⟩)
theorem mlost {N F t : Nat} {s C g me mc be mt mb : Nat → Int} {th wm : Int} (hF : F ≤ 24) (hN : 400 < N) (ht : t < F) (hc : CR C F mc) (hC : RowB C) (htb : ∀ v, v < 16 → mb v = g v) (hg : ∀ v, v < 16 → 0 ≤ g v ∧ g v ≤ 15) : Ok (fX12_lost_L29 N s t (fX12_lost_j132 N s t) N 0 0 th wm me mc be mt mb) (fun r => r.1 = (ctB (mtB C g t) 16 : Int)) := by
  refine Ok.loop (fun m i a => fX12_lost_L29 N s t (fX12_lost_j132 N s t) m a (i : Int) th wm me mc be mt mb) 16 (fun i a => a = (ctB (mtB C g t) i : Int)) _ ?_ ?_ N 0 0 (by omega) (by omega) rfl
  · intro m i a hi hI ih
    show Ok (fX12_lost_b29 N s t _ _ a (i : Int) th wm me mc be mt mb) _
    unfold fX12_lost_b29
    refine Ok.ltp (by omega) ?_
    refine Ok.loop (fun n j z => fX12_lost_L41 N s t (fX12_lost_j101 N s t (fX12_lost_L29 N s t (fX12_lost_j132 N s t) m) (fX12_lost_j132 N s t)) n a (i : Int) z (j : Int) th wm me mc be mt mb) 16 (fun j z => (z = 0 ∧ ∀ w, w < j → ¬ (w ≠ i ∧ 0 < numS C t w ∧ g w = g i)) ∨ (z = 1 ∧ ∃ w, w < 16 ∧ w ≠ i ∧ 0 < numS C t w ∧ g w = g i)) _ ?_ ?_ N 0 0 (by omega) (by omega) (Or.inl ⟨rfl, fun w hw => by omega⟩)
    · intro n j z hj hI2 ih2
      show Ok (fX12_lost_b41 N s t _ _ a (i : Int) z (j : Int) th wm me mc be mt mb) _
      unfold fX12_lost_b41
      refine Ok.ltp (by omega) ?_
      rcases hI2 with ⟨z1, z2⟩ | ⟨z1, z2⟩
      · have nx : ¬ (j ≠ i ∧ 0 < numS C t j ∧ g j = g i) → Ok (fX12_lost_L41 N s t (fX12_lost_j101 N s t (fX12_lost_L29 N s t (fX12_lost_j132 N s t) m) (fX12_lost_j132 N s t)) n a (i : Int) 0 ((j : Int) + 1) th wm me mc be mt mb) (fun r => r.1 = (ctB (mtB C g t) 16 : Int)) := fun hne => ih2 0 (Or.inl ⟨rfl, fun w hw => by
          by_cases y : w = j
          · rw [y]; exact hne
          · exact z2 w (by omega)⟩)
        have g1 := hg i hi
        have g2 := hg j hj
        have hb := numS_b hC (t := t) (v := j) (by omega) hj
        rw [Int.toNat_natCast, Int.toNat_natCast, htb i hi, htb j hj]
        refine Ok.eqp z1 (Ok.eq (by omega) (fun q => nx (fun y => y.1 (by omega))) (fun q => Ok.gd (by omega) (Ok.gd (by omega) (Ok.eq (by omega) (fun q2 => ?_) (fun q2 => nx (fun y => q2 y.2.2))))))
        refine Ok.bind (countIn_ok (by omega) hj) (fun r12 h12 => ?_)
        rw [hc.num ht hj] at h12
        exact Ok.lt (by omega) (fun q3 => ih2 1 (Or.inr ⟨rfl, j, hj, by omega, by omega, q2⟩)) (fun q3 => nx (fun y => by omega))
      · exact Ok.eqn (by omega) (ih2 1 (Or.inr ⟨rfl, z2⟩))
    · intro n z hI2
      show Ok (fX12_lost_b41 N s t _ _ a (i : Int) z ((16 : Nat) : Int) th wm me mc be mt mb) _
      unfold fX12_lost_b41 fX12_lost_j101
      refine Ok.ltn (by omega) ?_
      have hb := numS_b hC (t := t) (v := i) (by omega) hi
      rcases hI2 with ⟨z1, z2⟩ | ⟨z1, z2⟩
      · have hno : ¬ meS C g t i := by
          intro y
          obtain ⟨w, w1, w2⟩ := y.2
          exact z2 w w1 w2
        exact Ok.eqp z1 (ih _ (by rw [ct_f (b := mtB C g t) (n := i) (pB_f hno), hI]))
      · refine Ok.eqn (by omega) (Ok.bind (countIn_ok (by omega) hi) (fun r15 h15 => ?_))
        rw [hc.num ht hi] at h15
        refine Ok.lt (by omega) (fun q3 => ih _ ?_) (fun q3 => ih _ ?_)
        · rw [ct_t (b := mtB C g t) (n := i) (pB_t ⟨by omega, z2⟩), hI]
        · rw [ct_f (b := mtB C g t) (n := i) (pB_f (fun y => by have := y.1; omega)), hI]
  · intro m a hI
    show Ok (fX12_lost_b29 N s t _ _ a ((16 : Nat) : Int) th wm me mc be mt mb) _
    unfold fX12_lost_b29 fX12_lost_j132
    exact Ok.ltn (by omega) (Ok.ret hI)
theorem lost_j {N : Nat} {d cu sk se we : Nat → Int} {W H F : Nat} {lk en many sz : Int} {c so fo su tg tb dt ac ar no og tc : Nat → Int} {th wm : Int} {me mc be mt mb : Nat → Int} {s : Nat → Int} {x1 : Int} (hs : SR s d cu sk se we W H F) (hv : FV d cu sk se we W H F) (hN : 400 < N) (hl : LkI d cu sk se we W H F lk c many so fo) (he : EnI d cu sk se we W H F en tg tb dt tc) (hx1 : -2147483648 ≤ x1 ∧ x1 < 2147483648) : Ok (fX11_lost N W H F d cu se sk we lk en c many so fo su tg tb dt sz ac ar no og tc x1) (fun r => EvT d cu sk se we W H F r.2 ∧ Ok (fX12_lost N s th wm me mc be mt mb x1) (fun q => r.1 = q.1)) := by
  have hF := hv.2.2.1
  have hS := size_b hv.1 hv.2.1
  have hC := CU_b (d := d) hS.2
  unfold fX11_lost fX12_lost
  by_cases f1 : 0 ≤ x1 ∧ x1 < F
  · refine Ok.bind (hasFrame_t hF f1) (fun r1 h1 => Ok.eqn (by omega) ?_)
    obtain ⟨t, rfl⟩ : ∃ t : Nat, x1 = (t : Int) := ⟨x1.toNat, by omega⟩
    have ht : t < F := by omega
    have hn : ∀ v, v < 16 → 0 ≤ numS (CU d (W * H)) t v := fun v hv2 => by rw [num_CU (fun p hp => (hv.dB ht p hp).1) hv2]; exact (cntS_b _ _ _ _).1
    refine Ok.bind (evened_ok hv hN hl he) (fun r8 h8 => ?_)
    refine Ok.mono (clost r8 hF hN ht h8.2.1.1 hC hn (fun v hv2 => h8.2.2.2.2.1 t v ht hv2) (hv.TB_b t)) (fun r hr => ⟨by rw [hr.2]; exact ⟨Or.inr ⟨h8.1, h8.2.1⟩, Or.inr h8.2.2⟩, ?_⟩)
    refine Ok.bind (isFrame_t hs.2.2.1 hF f1) (fun a1 b1 => Ok.eqn (by omega) (Ok.bind (mlays_ok hs hv (by omega)) (fun a5 b5 => Ok.bind (mtable_ok hs hv b5 ht (by omega)) (fun a6 b6 => ?_))))
    exact Ok.mono (mlost hF hN ht b5.2.1 hC b6.2.2 (hv.TB_b t)) (fun q hq => by rw [hr.1, hq])
  · exact Ok.bind (hasFrame_f hF hx1 f1) (fun r3 h3 => Ok.eqp h3 (Ok.ret ⟨⟨hl, he⟩, Ok.bind (isFrame_f hs.2.2.1 hF hx1 f1) (fun a3 b3 => Ok.eqp b3 (Ok.ret rfl))⟩))
end PO
