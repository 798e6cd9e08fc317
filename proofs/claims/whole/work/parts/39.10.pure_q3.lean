/-! Questions, third part: kinds, nearest, period, flash, alike, lost. -/
section PH
noncomputable def pB (p : Prop) : Bool := (Classical.propDecidable p).decide
theorem pB_t {p : Prop} (h : p) : pB p = true := by
  unfold pB
  cases (Classical.propDecidable p) with
  | isTrue _ => rfl
  | isFalse z => exact absurd h z
theorem pB_f {p : Prop} (h : ¬ p) : pB p = false := by
  unfold pB
  cases (Classical.propDecidable p) with
  | isTrue z => exact absurd z h
  | isFalse _ => rfl
theorem pB_iff {p q : Prop} (h : p ↔ q) : pB p = pB q := by rw [propext h]
theorem ct_t {b : Nat → Bool} {n : Nat} (h : b n = true) : ((ctB b (n + 1) : Nat) : Int) = (ctB b n : Int) + 1 := by
  have h3 := ctB_succ b n
  rw [h] at h3
  have h4 : ctB b (n + 1) = ctB b n + 1 := h3
  omega
theorem ct_f {b : Nat → Bool} {n : Nat} (h : b n = false) : ((ctB b (n + 1) : Nat) : Int) = (ctB b n : Int) + 0 := by
  have h3 := ctB_succ b n
  rw [h] at h3
  have h4 : ctB b (n + 1) = ctB b n + 0 := h3
  omega
/-! kinds -/
noncomputable def nwB (C : Nat → Int) : Nat → Bool := fun t => pB (newS C t)
theorem new_cong {C c : Nat → Int} {F t : Nat} (h : CR C F c) (ht : t < F) : newS c t ↔ newS C t := by
  unfold newS
  constructor
  · intro z u hu; rw [← h.gap (by omega) ht]; exact z u hu
  · intro z u hu; rw [h.gap (by omega) ht]; exact z u hu
theorem ckinds0 {N : Nat} {d cu sk se we : Nat → Int} {W H F : Nat} {x1 : Int} {C : Nat → Int} (q : EvTy) (hF : F ≤ 24) (hN : 400 < N) (hc : CR C F q.2.2.1) (hB : RowB q.2.2.1) : Ok (fX11_kinds_L11 N W H F d cu se sk we x1 (fX11_kinds_j46 N W H F d cu se sk we x1) N 0 0 q.1 q.2.1 q.2.2.1 q.2.2.2.1 q.2.2.2.2.1 q.2.2.2.2.2.1 q.2.2.2.2.2.2.1 q.2.2.2.2.2.2.2.1 q.2.2.2.2.2.2.2.2.1 q.2.2.2.2.2.2.2.2.2.1 q.2.2.2.2.2.2.2.2.2.2.1 q.2.2.2.2.2.2.2.2.2.2.2.1 q.2.2.2.2.2.2.2.2.2.2.2.2.1 q.2.2.2.2.2.2.2.2.2.2.2.2.2.1 q.2.2.2.2.2.2.2.2.2.2.2.2.2.2.1 q.2.2.2.2.2.2.2.2.2.2.2.2.2.2.2) (fun r => r.1 = (ctB (nwB C) F : Int) ∧ r.2 = q) := by
  refine Ok.loop (fun m i a => fX11_kinds_L11 N W H F d cu se sk we x1 (fX11_kinds_j46 N W H F d cu se sk we x1) m a (i : Int) q.1 q.2.1 q.2.2.1 q.2.2.2.1 q.2.2.2.2.1 q.2.2.2.2.2.1 q.2.2.2.2.2.2.1 q.2.2.2.2.2.2.2.1 q.2.2.2.2.2.2.2.2.1 q.2.2.2.2.2.2.2.2.2.1 q.2.2.2.2.2.2.2.2.2.2.1 q.2.2.2.2.2.2.2.2.2.2.2.1 q.2.2.2.2.2.2.2.2.2.2.2.2.1 q.2.2.2.2.2.2.2.2.2.2.2.2.2.1 q.2.2.2.2.2.2.2.2.2.2.2.2.2.2.1 q.2.2.2.2.2.2.2.2.2.2.2.2.2.2.2) F (fun i a => a = (ctB (nwB C) i : Int)) _ ?_ ?_ N 0 0 (by omega) (by omega) rfl
  · intro m i a hi hI ih
    show Ok (fX11_kinds_b11 N W H F d cu se sk we x1 _ _ a (i : Int) q.1 q.2.1 q.2.2.1 q.2.2.2.1 q.2.2.2.2.1 q.2.2.2.2.2.1 q.2.2.2.2.2.2.1 q.2.2.2.2.2.2.2.1 q.2.2.2.2.2.2.2.2.1 q.2.2.2.2.2.2.2.2.2.1 q.2.2.2.2.2.2.2.2.2.2.1 q.2.2.2.2.2.2.2.2.2.2.2.1 q.2.2.2.2.2.2.2.2.2.2.2.2.1 q.2.2.2.2.2.2.2.2.2.2.2.2.2.1 q.2.2.2.2.2.2.2.2.2.2.2.2.2.2.1 q.2.2.2.2.2.2.2.2.2.2.2.2.2.2.2) _
    unfold fX11_kinds_b11
    refine Ok.ltp (by omega) (Ok.bind (isNew_ok (by omega) (by omega) hB) (fun r4 h4 => ?_))
    rcases h4 with ⟨z, z2⟩ | ⟨z, z2⟩
    · exact Ok.eqn (by omega) (ih _ (by rw [ct_t (b := nwB C) (n := i) (pB_t ((new_cong hc hi).mp z2)), hI]))
    · exact Ok.eqp z (ih _ (by rw [ct_f (b := nwB C) (n := i) (pB_f (fun w => z2 ((new_cong hc hi).mpr w))), hI]))
  · intro m a hI
    show Ok (fX11_kinds_b11 N W H F d cu se sk we x1 _ _ a (F : Int) q.1 q.2.1 q.2.2.1 q.2.2.2.1 q.2.2.2.2.1 q.2.2.2.2.2.1 q.2.2.2.2.2.2.1 q.2.2.2.2.2.2.2.1 q.2.2.2.2.2.2.2.2.1 q.2.2.2.2.2.2.2.2.2.1 q.2.2.2.2.2.2.2.2.2.2.1 q.2.2.2.2.2.2.2.2.2.2.2.1 q.2.2.2.2.2.2.2.2.2.2.2.2.1 q.2.2.2.2.2.2.2.2.2.2.2.2.2.1 q.2.2.2.2.2.2.2.2.2.2.2.2.2.2.1 q.2.2.2.2.2.2.2.2.2.2.2.2.2.2.2) _
    unfold fX11_kinds_b11 fX11_kinds_j46
    exact Ok.ltn (by omega) (Ok.ret ⟨hI, rfl⟩)
theorem ckinds1 {N : Nat} {d cu sk se we : Nat → Int} {W H F : Nat} {x1 : Int} {C : Nat → Int} (q : EvTy) (hF : F ≤ 24) (hN : 400 < N) (hc : CR C F q.2.2.2.2.2.2.2.2.2.2.2.2.2.2.2) (hB : RowB q.2.2.2.2.2.2.2.2.2.2.2.2.2.2.2) : Ok (fX11_kinds_L11v1 N W H F d cu se sk we x1 (fX11_kinds_j46 N W H F d cu se sk we x1) N 0 0 q.1 q.2.1 q.2.2.1 q.2.2.2.1 q.2.2.2.2.1 q.2.2.2.2.2.1 q.2.2.2.2.2.2.1 q.2.2.2.2.2.2.2.1 q.2.2.2.2.2.2.2.2.1 q.2.2.2.2.2.2.2.2.2.1 q.2.2.2.2.2.2.2.2.2.2.1 q.2.2.2.2.2.2.2.2.2.2.2.1 q.2.2.2.2.2.2.2.2.2.2.2.2.1 q.2.2.2.2.2.2.2.2.2.2.2.2.2.1 q.2.2.2.2.2.2.2.2.2.2.2.2.2.2.1 q.2.2.2.2.2.2.2.2.2.2.2.2.2.2.2) (fun r => r.1 = (ctB (nwB C) F : Int) ∧ r.2 = q) := by
  refine Ok.loop (fun m i a => fX11_kinds_L11v1 N W H F d cu se sk we x1 (fX11_kinds_j46 N W H F d cu se sk we x1) m a (i : Int) q.1 q.2.1 q.2.2.1 q.2.2.2.1 q.2.2.2.2.1 q.2.2.2.2.2.1 q.2.2.2.2.2.2.1 q.2.2.2.2.2.2.2.1 q.2.2.2.2.2.2.2.2.1 q.2.2.2.2.2.2.2.2.2.1 q.2.2.2.2.2.2.2.2.2.2.1 q.2.2.2.2.2.2.2.2.2.2.2.1 q.2.2.2.2.2.2.2.2.2.2.2.2.1 q.2.2.2.2.2.2.2.2.2.2.2.2.2.1 q.2.2.2.2.2.2.2.2.2.2.2.2.2.2.1 q.2.2.2.2.2.2.2.2.2.2.2.2.2.2.2) F (fun i a => a = (ctB (nwB C) i : Int)) _ ?_ ?_ N 0 0 (by omega) (by omega) rfl
  · intro m i a hi hI ih
    show Ok (fX11_kinds_b11v1 N W H F d cu se sk we x1 _ _ a (i : Int) q.1 q.2.1 q.2.2.1 q.2.2.2.1 q.2.2.2.2.1 q.2.2.2.2.2.1 q.2.2.2.2.2.2.1 q.2.2.2.2.2.2.2.1 q.2.2.2.2.2.2.2.2.1 q.2.2.2.2.2.2.2.2.2.1 q.2.2.2.2.2.2.2.2.2.2.1 q.2.2.2.2.2.2.2.2.2.2.2.1 q.2.2.2.2.2.2.2.2.2.2.2.2.1 q.2.2.2.2.2.2.2.2.2.2.2.2.2.1 q.2.2.2.2.2.2.2.2.2.2.2.2.2.2.1 q.2.2.2.2.2.2.2.2.2.2.2.2.2.2.2) _
    unfold fX11_kinds_b11v1
    refine Ok.ltp (by omega) (Ok.bind (isNew_ok (by omega) (by omega) hB) (fun r4 h4 => ?_))
    rcases h4 with ⟨z, z2⟩ | ⟨z, z2⟩
    · exact Ok.eqn (by omega) (ih _ (by rw [ct_t (b := nwB C) (n := i) (pB_t ((new_cong hc hi).mp z2)), hI]))
    · exact Ok.eqp z (ih _ (by rw [ct_f (b := nwB C) (n := i) (pB_f (fun w => z2 ((new_cong hc hi).mpr w))), hI]))
  · intro m a hI
    show Ok (fX11_kinds_b11v1 N W H F d cu se sk we x1 _ _ a (F : Int) q.1 q.2.1 q.2.2.1 q.2.2.2.1 q.2.2.2.2.1 q.2.2.2.2.2.1 q.2.2.2.2.2.2.1 q.2.2.2.2.2.2.2.1 q.2.2.2.2.2.2.2.2.1 q.2.2.2.2.2.2.2.2.2.1 q.2.2.2.2.2.2.2.2.2.2.1 q.2.2.2.2.2.2.2.2.2.2.2.1 q.2.2.2.2.2.2.2.2.2.2.2.2.1 q.2.2.2.2.2.2.2.2.2.2.2.2.2.1 q.2.2.2.2.2.2.2.2.2.2.2.2.2.2.1 q.2.2.2.2.2.2.2.2.2.2.2.2.2.2.2) _
    unfold fX11_kinds_b11v1 fX11_kinds_j46
    exact Ok.ltn (by omega) (Ok.ret ⟨hI, rfl⟩)
theorem mkinds0 {N F : Nat} {s C : Nat → Int} {x1 : Int} {th wm : Int} {me mc be mt mb mo ec ev : Nat → Int} (s2 : s 2 = (F : Int)) (hF : F ≤ 24) (hN : 400 < N) (hc : CR C F mc) (hC : RowB C) : Ok (fX12_kinds_L30 N s x1 (fX12_kinds_j102 N s x1) N 0 0 th wm me mc be mt mb mo ec ev) (fun r => r.1 = (ctB (nwB C) F : Int)) := by
  refine Ok.loop (fun m i a => fX12_kinds_L30 N s x1 (fX12_kinds_j102 N s x1) m a (i : Int) th wm me mc be mt mb mo ec ev) F (fun i a => a = (ctB (nwB C) i : Int)) _ ?_ ?_ N 0 0 (by omega) (by omega) rfl
  · intro m i a hi hI ih
    show Ok (fX12_kinds_b30 N s x1 _ _ a (i : Int) th wm me mc be mt mb mo ec ev) _
    unfold fX12_kinds_b30
    rw [(show ((2 : Int)).toNat = 2 from rfl), s2]
    refine Ok.gd (by omega) (Ok.ltp (by omega) ?_)
    refine Ok.loop (fun n j z => fX12_kinds_L47 N s x1 (fX12_kinds_j83 N s x1 (fX12_kinds_L30 N s x1 (fX12_kinds_j102 N s x1) m) (fX12_kinds_j102 N s x1)) n a (i : Int) z (j : Int) th wm me mc be mt mb mo ec ev) i (fun j z => (z = 1 ∧ ∀ u, u < j → gapS C u i ≠ 0) ∨ (z = 0 ∧ ¬ newS C i)) _ ?_ ?_ N 0 1 (by omega) (by omega) (Or.inl ⟨rfl, fun u hu => by omega⟩)
    · intro n j z hj hI2 ih2
      show Ok (fX12_kinds_b47 N s x1 _ _ a (i : Int) z (j : Int) th wm me mc be mt mb mo ec ev) _
      unfold fX12_kinds_b47
      refine Ok.ltp (by omega) ?_
      rcases hI2 with ⟨z1, z2⟩ | ⟨z1, z2⟩
      · refine Ok.eqn (by omega) (Ok.bind (apartC_ok hc hC hF (by omega) (by omega) (by omega)) (fun r7 h7 => ?_))
        obtain ⟨h7a, h7b⟩ := h7
        rw [gapS_sym] at h7a
        refine Ok.lt (by omega) (fun q => ih2 _ (Or.inl ⟨rfl, fun u hu => ?_⟩)) (fun q => ih2 _ (Or.inr ⟨rfl, fun w => w j hj (by omega)⟩))
        by_cases w : u = j
        · rw [w]; omega
        · exact z2 u (by omega)
      · exact Ok.eqp z1 (ih2 _ (Or.inr ⟨rfl, z2⟩))
    · intro n z hI2
      show Ok (fX12_kinds_b47 N s x1 _ _ a (i : Int) z (i : Int) th wm me mc be mt mb mo ec ev) _
      unfold fX12_kinds_b47 fX12_kinds_j83
      refine Ok.ltn (by omega) ?_
      rcases hI2 with ⟨z1, z2⟩ | ⟨z1, z2⟩
      · exact Ok.eqn (by omega) (ih _ (by rw [ct_t (b := nwB C) (n := i) (pB_t z2), hI]))
      · exact Ok.eqp z1 (ih _ (by rw [ct_f (b := nwB C) (n := i) (pB_f z2), hI]))
  · intro m a hI
    show Ok (fX12_kinds_b30 N s x1 _ _ a (F : Int) th wm me mc be mt mb mo ec ev) _
    unfold fX12_kinds_b30 fX12_kinds_j102
    rw [(show ((2 : Int)).toNat = 2 from rfl), s2]
    exact Ok.gd (by omega) (Ok.ltn (by omega) (Ok.ret hI))
theorem mkinds1 {N F : Nat} {s C : Nat → Int} {x1 : Int} {th wm : Int} {me mc be mt mb mo ec ev : Nat → Int} (s2 : s 2 = (F : Int)) (hF : F ≤ 24) (hN : 400 < N) (hc : CR C F ec) (hC : RowB C) : Ok (fX12_kinds_L30v1 N s x1 (fX12_kinds_j102 N s x1) N 0 0 th wm me mc be mt mb mo ec ev) (fun r => r.1 = (ctB (nwB C) F : Int)) := by
  refine Ok.loop (fun m i a => fX12_kinds_L30v1 N s x1 (fX12_kinds_j102 N s x1) m a (i : Int) th wm me mc be mt mb mo ec ev) F (fun i a => a = (ctB (nwB C) i : Int)) _ ?_ ?_ N 0 0 (by omega) (by omega) rfl
  · intro m i a hi hI ih
    show Ok (fX12_kinds_b30v1 N s x1 _ _ a (i : Int) th wm me mc be mt mb mo ec ev) _
    unfold fX12_kinds_b30v1
    rw [(show ((2 : Int)).toNat = 2 from rfl), s2]
    refine Ok.gd (by omega) (Ok.ltp (by omega) ?_)
    refine Ok.loop (fun n j z => fX12_kinds_L47v1 N s x1 (fX12_kinds_j83v1 N s x1 (fX12_kinds_L30v1 N s x1 (fX12_kinds_j102 N s x1) m) (fX12_kinds_j102 N s x1)) n a (i : Int) z (j : Int) th wm me mc be mt mb mo ec ev) i (fun j z => (z = 1 ∧ ∀ u, u < j → gapS C u i ≠ 0) ∨ (z = 0 ∧ ¬ newS C i)) _ ?_ ?_ N 0 1 (by omega) (by omega) (Or.inl ⟨rfl, fun u hu => by omega⟩)
    · intro n j z hj hI2 ih2
      show Ok (fX12_kinds_b47v1 N s x1 _ _ a (i : Int) z (j : Int) th wm me mc be mt mb mo ec ev) _
      unfold fX12_kinds_b47v1
      refine Ok.ltp (by omega) ?_
      rcases hI2 with ⟨z1, z2⟩ | ⟨z1, z2⟩
      · refine Ok.eqn (by omega) (Ok.bind (apartC_ok hc hC hF (by omega) (by omega) (by omega)) (fun r7 h7 => ?_))
        obtain ⟨h7a, h7b⟩ := h7
        rw [gapS_sym] at h7a
        refine Ok.lt (by omega) (fun q => ih2 _ (Or.inl ⟨rfl, fun u hu => ?_⟩)) (fun q => ih2 _ (Or.inr ⟨rfl, fun w => w j hj (by omega)⟩))
        by_cases w : u = j
        · rw [w]; omega
        · exact z2 u (by omega)
      · exact Ok.eqp z1 (ih2 _ (Or.inr ⟨rfl, z2⟩))
    · intro n z hI2
      show Ok (fX12_kinds_b47v1 N s x1 _ _ a (i : Int) z (i : Int) th wm me mc be mt mb mo ec ev) _
      unfold fX12_kinds_b47v1 fX12_kinds_j83v1
      refine Ok.ltn (by omega) ?_
      rcases hI2 with ⟨z1, z2⟩ | ⟨z1, z2⟩
      · exact Ok.eqn (by omega) (ih _ (by rw [ct_t (b := nwB C) (n := i) (pB_t z2), hI]))
      · exact Ok.eqp z1 (ih _ (by rw [ct_f (b := nwB C) (n := i) (pB_f z2), hI]))
  · intro m a hI
    show Ok (fX12_kinds_b30v1 N s x1 _ _ a (F : Int) th wm me mc be mt mb mo ec ev) _
    unfold fX12_kinds_b30v1 fX12_kinds_j102
    rw [(show ((2 : Int)).toNat = 2 from rfl), s2]
    exact Ok.gd (by omega) (Ok.ltn (by omega) (Ok.ret hI))
theorem kinds_j {N : Nat} {d cu sk se we : Nat → Int} {W H F : Nat} {lk en many sz : Int} {c so fo su tg tb dt ac ar no og tc : Nat → Int} {th wm : Int} {me mc be mt mb mo ec ev : Nat → Int} {s : Nat → Int} {x1 : Int} (hs : SR s d cu sk se we W H F) (hv : FV d cu sk se we W H F) (hN : 400 < N) (hl : LkI d cu sk se we W H F lk c many so fo) (he : EnI d cu sk se we W H F en tg tb dt tc) (hx1 : x1 = 0 ∨ x1 = 1) : Ok (fX11_kinds N W H F d cu se sk we lk en c many so fo su tg tb dt sz ac ar no og tc x1) (fun r => EvT d cu sk se we W H F r.2 ∧ Ok (fX12_kinds N s th wm me mc be mt mb mo ec ev x1) (fun q => r.1 = q.1)) := by
  have hF := hv.2.2.1
  have hS := size_b hv.1 hv.2.1
  have hC := CU_b (d := d) hS.2
  have hC2 := CU_b (d := EV d cu sk se we W H F) hS.2
  unfold fX11_kinds fX12_kinds
  rcases hx1 with rfl | rfl
  · refine Ok.bind (tally_0 hv hN hl he) (fun r5 h5 => ?_)
    rw [if_pos h5.1]
    refine Ok.mono (ckinds0 r5.2 hF hN h5.2.2.1 h5.2.2.2.1) (fun r hr => ⟨by rw [hr.2]; exact h5.2.1, ?_⟩)
    refine Ok.bind (evensAll_ok hs hv (by omega)) (fun a5 b5 => Ok.eqp rfl ?_)
    exact Ok.mono (mkinds0 hs.2.2.1 hF hN b5.1.2.1 hC) (fun q hq => by rw [hr.1, hq])
  · refine Ok.bind (tally_1 hv hN hl he) (fun r5 h5 => ?_)
    rw [if_neg (by omega)]
    refine Ok.mono (ckinds1 r5.2 hF hN h5.2.2.2.2.2.2.1 h5.2.2.2.2.2.2.2) (fun r hr => ⟨by rw [hr.2]; exact h5.2.1, ?_⟩)
    refine Ok.bind (evensAll_ok hs hv (by omega)) (fun a5 b5 => Ok.eqn (by omega) ?_)
    exact Ok.mono (mkinds1 hs.2.2.1 hF hN b5.2.1 hC2) (fun q hq => by rw [hr.1, hq])
/-! nearest -/
def nrS (C : Nat → Int) (x : Nat) : Nat → Int
  | 0 => -1
  | n + 1 => if n = x then nrS C x n else if nrS C x n = -1 then (n : Int) else if gapS C n x < gapS C (nrS C x n).toNat x then (n : Int) else nrS C x n
theorem nrS_succ (C : Nat → Int) (x n : Nat) : nrS C x (n + 1) = if n = x then nrS C x n else if nrS C x n = -1 then (n : Int) else if gapS C n x < gapS C (nrS C x n).toNat x then (n : Int) else nrS C x n := rfl
theorem nrS_b (C : Nat → Int) (x : Nat) : ∀ n, -1 ≤ nrS C x n ∧ nrS C x n < n
  | 0 => by show (-1 : Int) ≤ -1 ∧ (-1 : Int) < ((0 : Nat) : Int); omega
  | n + 1 => by
    have ih := nrS_b C x n
    rw [nrS_succ]
    by_cases q : n = x
    · rw [if_pos q]; omega
    · rw [if_neg q]
      by_cases q2 : nrS C x n = -1
      · rw [if_pos q2]; omega
      · rw [if_neg q2]
        by_cases q3 : gapS C n x < gapS C (nrS C x n).toNat x
        · rw [if_pos q3]; omega
        · rw [if_neg q3]; omega
theorem cnear {N x W H F : Nat} {d cu se c so fo C : Nat → Int} {lk many : Int} (hF : F ≤ 24) (hx : x < F) (hN : 400 < N) (hc : CR C F c) (hC : RowB C) (hB : RowB c) : Ok (fX11_nearest_L31 N W H F d cu se x (fX11_nearest_j78 N W H F d cu se x) N (-1) 1000000 0 lk c many so fo) (fun r => r = (nrS C x F, lk, c, many, so, fo)) := by
  refine Ok.loop (fun m i (a : Int × Int) => fX11_nearest_L31 N W H F d cu se x (fX11_nearest_j78 N W H F d cu se x) m a.1 a.2 (i : Int) lk c many so fo) F (fun i a => a.1 = nrS C x i ∧ ((a.1 = -1 ∧ a.2 = 1000000) ∨ (a.1 ≠ -1 ∧ a.2 = gapS C a.1.toNat x))) _ ?_ ?_ N 0 (-1, 1000000) (by omega) (by omega) ⟨rfl, Or.inl ⟨rfl, rfl⟩⟩
  · intro m i a hi hI ih
    obtain ⟨i1, i2⟩ := hI
    show Ok (fX11_nearest_b31 N W H F d cu se x _ _ a.1 a.2 (i : Int) lk c many so fo) _
    unfold fX11_nearest_b31
    have hnb := nrS_b C x i
    refine Ok.ltp (by omega) (Ok.bind (gapC_ok hc hC hB hF hi hx (by omega)) (fun r5 h5 => ?_))
    obtain ⟨h5, h5b⟩ := h5
    have hgb : a.2 = 1000000 ∨ (0 ≤ a.2 ∧ a.2 ≤ 1024) := by
      rcases i2 with z | z
      · exact Or.inl z.2
      · right; rw [z.2]; exact gapS_b hC (by omega) (by omega)
    refine Ok.eq (by omega) (fun q => ih a ⟨?_, i2⟩) (fun q => ?_)
    · rw [nrS_succ, if_pos (by omega)]; exact i1
    · refine Ok.lt (by omega) (fun q2 => ih ((i : Int), r5) ⟨?_, Or.inr ⟨?_, ?_⟩⟩) (fun q2 => ih a ⟨?_, i2⟩)
      · show (i : Int) = _
        rw [nrS_succ, if_neg (by omega), ← i1]
        rcases i2 with z | z
        · rw [if_pos z.1]
        · rw [if_neg z.1, if_pos (by rw [← z.2, ← h5]; exact q2)]
      · show (i : Int) ≠ -1
        omega
      · show r5 = gapS C ((i : Int)).toNat x
        rw [Int.toNat_natCast]; exact h5
      · rw [nrS_succ, if_neg (by omega), ← i1]
        rcases i2 with z | z
        · exfalso; omega
        · rw [if_neg z.1, if_neg (by rw [← z.2, ← h5]; omega)]
  · intro m a hI
    show Ok (fX11_nearest_b31 N W H F d cu se x _ _ a.1 a.2 (F : Int) lk c many so fo) _
    unfold fX11_nearest_b31 fX11_nearest_j78
    refine Ok.ltn (by omega) (Ok.ret ?_)
    rw [hI.1]
theorem mnear {N x F : Nat} {s C me mc be : Nat → Int} {th : Int} (s2 : s 2 = (F : Int)) (hF : F ≤ 24) (hx : x < F) (hN : 400 < N) (hc : CR C F mc) (hC : RowB C) : Ok (fX12_nearest_L24 N s x (fX12_nearest_j73 N s x) N (-1) 0 th me mc be) (fun r => r.1 = nrS C x F) := by
  refine Ok.loop (fun m i a => fX12_nearest_L24 N s x (fX12_nearest_j73 N s x) m a (i : Int) th me mc be) F (fun i a => a = nrS C x i) _ ?_ ?_ N 0 (-1) (by omega) (by omega) rfl
  · intro m i a hi hI ih
    show Ok (fX12_nearest_b24 N s x _ _ a (i : Int) th me mc be) _
    unfold fX12_nearest_b24
    have hnb := nrS_b C x i
    rw [(show ((2 : Int)).toNat = 2 from rfl), s2]
    refine Ok.gd (by omega) (Ok.ltp (by omega) ?_)
    refine Ok.eq (by omega) (fun q => ih a ?_) (fun q => ?_)
    · rw [nrS_succ, if_pos (by omega)]; exact hI
    · refine Ok.eq (by omega) (fun q2 => ih _ ?_) (fun q2 => ?_)
      · rw [nrS_succ, if_neg (by omega), if_pos (by omega)]
      · obtain ⟨y, hy⟩ : ∃ y : Nat, a = (y : Int) := ⟨a.toNat, by omega⟩
        refine Ok.bind (apartC_ok hc hC hF hi hx (by omega)) (fun r8 h8 => ?_)
        rw [hy]
        refine Ok.bind (apartC_ok hc hC hF (by omega) hx (by omega)) (fun r9 h9 => ?_)
        have e1 : nrS C x (i + 1) = if gapS C i x < gapS C y x then (i : Int) else (y : Int) := by
          rw [nrS_succ, if_neg (by omega), ← hI, if_neg q2, hy, Int.toNat_natCast]
        refine Ok.lt (by omega) (fun q3 => ih _ ?_) (fun q3 => ih _ ?_)
        · rw [e1, if_pos (by omega)]
        · rw [e1, if_neg (by omega)]
  · intro m a hI
    show Ok (fX12_nearest_b24 N s x _ _ a (F : Int) th me mc be) _
    unfold fX12_nearest_b24 fX12_nearest_j73
    rw [(show ((2 : Int)).toNat = 2 from rfl), s2]
    exact Ok.gd (by omega) (Ok.ltn (by omega) (Ok.ret hI))
theorem nearest_j {N : Nat} {d cu sk se we : Nat → Int} {W H F : Nat} {lk many th : Int} {c so fo me mc be : Nat → Int} {s : Nat → Int} {x1 : Int} (hs : SR s d cu sk se we W H F) (hv : FV d cu sk se we W H F) (hN : 400 < N) (hl : LkI d cu sk se we W H F lk c many so fo) (hx1 : -2147483648 ≤ x1 ∧ x1 < 2147483648) : Ok (fX11_nearest N W H F d cu se lk c many so fo x1) (fun r => LkI d cu sk se we W H F r.2.1 r.2.2.1 r.2.2.2.1 r.2.2.2.2.1 r.2.2.2.2.2 ∧ Ok (fX12_nearest N s th me mc be x1) (fun q => r.1 = q.1)) := by
  have hF := hv.2.2.1
  have hC := CU_b (d := d) (size_b hv.1 hv.2.1).2
  unfold fX11_nearest fX12_nearest
  by_cases f1 : 0 ≤ x1 ∧ x1 < F
  · refine Ok.bind (hasFrame_t hF f1) (fun r1 h1 => Ok.eqn (by omega) ?_)
    obtain ⟨t, rfl⟩ : ∃ t : Nat, x1 = (t : Int) := ⟨x1.toNat, by omega⟩
    refine Ok.bind (looked_ok hv hN hl) (fun r2 h2 => ?_)
    refine Ok.mono (cnear hF (by omega) hN h2.2.1 hC h2.2.2.1) (fun r hr => ?_)
    rw [hr]
    refine ⟨Or.inr h2, ?_⟩
    refine Ok.bind (isFrame_t hs.2.2.1 hF f1) (fun a1 b1 => Ok.eqn (by omega) (Ok.bind (mlays_ok hs hv (by omega)) (fun a3 b3 => ?_)))
    exact Ok.mono (mnear hs.2.2.1 hF (by omega) hN b3.2.1 hC) (fun q hq => hq.symm)
  · exact Ok.bind (hasFrame_f hF hx1 f1) (fun r3 h3 => Ok.eqp h3 (Ok.ret ⟨hl, Ok.bind (isFrame_f hs.2.2.1 hF hx1 f1) (fun a3 b3 => Ok.eqp b3 (Ok.ret rfl))⟩))
/-! flash -/
def fsS (P : Nat → Bool) (k : Int) : Nat → Nat → Int → Int
  | 0, _, n => if k = -1 then n else -1
  | m + 1, i, n => if P i then (if n = k then (i : Int) else fsS P k m (i + 1) (n + 1)) else fsS P k m (i + 1) n
theorem fsS_0 (P : Nat → Bool) (k : Int) (i : Nat) (n : Int) : fsS P k 0 i n = if k = -1 then n else -1 := rfl
theorem fsS_succ (P : Nat → Bool) (k : Int) (m i : Nat) (n : Int) : fsS P k (m + 1) i n = if P i then (if n = k then (i : Int) else fsS P k m (i + 1) (n + 1)) else fsS P k m (i + 1) n := rfl
theorem cflash {N : Nat} {d cu sk se we : Nat → Int} {W H F : Nat} {c so fo : Nat → Int} {lk many x1 x2 : Int} (hv : FV d cu sk se we W H F) (hL : LkR d cu sk se we W H F c many so fo) (hN : 400 < N) (hx1 : 0 ≤ x1 ∧ x1 < 2147483648) (hx2 : -1 ≤ x2 ∧ x2 < 2147483648) : Ok (fX11_flash_L23 N W H F d cu se x1 x2 (fX11_flash_j65 N W H F d cu se x1 x2) N 0 1 lk c many so fo) (fun r => r = (fsS (fun t => pB (faS (BS d cu se (W * H)) (meanS d (W * H)) t x1)) x2 (F - 2) 1 0, lk, c, many, so, fo)) := by
  have hF := hv.2.2.1
  refine Ok.loop (fun m i a => fX11_flash_L23 N W H F d cu se x1 x2 (fX11_flash_j65 N W H F d cu se x1 x2) m a ((i + 1 : Nat) : Int) lk c many so fo) (F - 2) (fun i a => 0 ≤ a ∧ a ≤ i ∧ fsS (fun t => pB (faS (BS d cu se (W * H)) (meanS d (W * H)) t x1)) x2 (F - 2 - i) (i + 1) a = fsS (fun t => pB (faS (BS d cu se (W * H)) (meanS d (W * H)) t x1)) x2 (F - 2) 1 0) _ ?_ ?_ N 0 0 (by omega) (by omega) ⟨by omega, by omega, rfl⟩
  · intro m i a hi hI ih
    obtain ⟨i1, i1b, i2⟩ := hI
    show Ok (fX11_flash_b23 N W H F d cu se x1 x2 _ _ a ((i + 1 : Nat) : Int) lk c many so fo) _
    unfold fX11_flash_b23
    obtain ⟨k, hk⟩ : ∃ k, F - 2 - i = k + 1 := ⟨F - 2 - i - 1, by omega⟩
    rw [hk, fsS_succ] at i2
    have hk2 : F - 2 - (i + 1) = k := by omega
    refine Ok.ltp (by omega) (Ok.bind (flashes_ok hv hL (by omega) (by omega) hx1 (by omega)) (fun r5 h5 => ?_))
    rw [show ((i + 1 : Nat) : Int) + 1 = ((i + 1 + 1 : Nat) : Int) by omega]
    rcases h5 with ⟨z, z2⟩ | ⟨z, z2⟩
    · rw [pB_t z2] at i2
      refine Ok.eqn (by omega) (Ok.eq (by omega) (fun q => Ok.ret ?_) (fun q => ih _ ⟨by omega, by omega, ?_⟩))
      · rw [if_pos q] at i2; rw [← i2]; rfl
      · rw [if_neg q] at i2; rw [hk2]; exact i2
    · rw [pB_f z2] at i2
      exact Ok.eqp z (ih _ ⟨i1, by omega, by rw [hk2]; exact i2⟩)
  · intro m a hI
    obtain ⟨i1, i1b, i2⟩ := hI
    rw [Nat.sub_self, fsS_0] at i2
    show Ok (fX11_flash_b23 N W H F d cu se x1 x2 _ _ a ((F - 2 + 1 : Nat) : Int) lk c many so fo) _
    unfold fX11_flash_b23 fX11_flash_j65
    refine Ok.ltn (by omega) (Ok.eq (by omega) (fun q => Ok.ret ?_) (fun q => Ok.ret ?_))
    · rw [if_pos q] at i2; rw [← i2]
    · rw [if_neg q] at i2; rw [← i2]
theorem mflash {N : Nat} {d cu sk se we : Nat → Int} {W H F : Nat} {s me mc be : Nat → Int} {th x1 x2 : Int} (s2 : s 2 = (F : Int)) (hv : FV d cu sk se we W H F) (hL : MlR d cu sk se we W H F me mc be) (hN : 400 < N) (hx1 : 0 ≤ x1 ∧ x1 < 2147483648) (hx2 : -1 ≤ x2 ∧ x2 < 2147483648) : Ok (fX12_flash_L26 N s x1 x2 (fX12_flash_j69 N s x1 x2) N 0 1 th me mc be) (fun r => r.1 = fsS (fun t => pB (faS (BS d cu se (W * H)) (meanS d (W * H)) t x1)) x2 (F - 2) 1 0) := by
  have hF := hv.2.2.1
  refine Ok.loop (fun m i a => fX12_flash_L26 N s x1 x2 (fX12_flash_j69 N s x1 x2) m a ((i + 1 : Nat) : Int) th me mc be) (F - 2) (fun i a => 0 ≤ a ∧ a ≤ i ∧ fsS (fun t => pB (faS (BS d cu se (W * H)) (meanS d (W * H)) t x1)) x2 (F - 2 - i) (i + 1) a = fsS (fun t => pB (faS (BS d cu se (W * H)) (meanS d (W * H)) t x1)) x2 (F - 2) 1 0) _ ?_ ?_ N 0 0 (by omega) (by omega) ⟨by omega, by omega, rfl⟩
  · intro m i a hi hI ih
    obtain ⟨i1, i1b, i2⟩ := hI
    show Ok (fX12_flash_b26 N s x1 x2 _ _ a ((i + 1 : Nat) : Int) th me mc be) _
    unfold fX12_flash_b26
    obtain ⟨k, hk⟩ : ∃ k, F - 2 - i = k + 1 := ⟨F - 2 - i - 1, by omega⟩
    rw [hk, fsS_succ] at i2
    have hk2 : F - 2 - (i + 1) = k := by omega
    rw [(show ((2 : Int)).toNat = 2 from rfl), s2]
    refine Ok.gd (by omega) (Ok.ltp (by omega) (Ok.bind (isFlash_ok hv hL (by omega) (by omega) hx1) (fun r5 h5 => ?_)))
    rw [show ((i + 1 : Nat) : Int) + 1 = ((i + 1 + 1 : Nat) : Int) by omega]
    rcases h5 with ⟨z, z2⟩ | ⟨z, z2⟩
    · rw [pB_t z2] at i2
      refine Ok.eqn (by omega) (Ok.eq (by omega) (fun q => Ok.ret ?_) (fun q => ih _ ⟨by omega, by omega, ?_⟩))
      · rw [if_pos q] at i2; rw [← i2]; rfl
      · rw [if_neg q] at i2; rw [hk2]; exact i2
    · rw [pB_f z2] at i2
      exact Ok.eqp z (ih _ ⟨i1, by omega, by rw [hk2]; exact i2⟩)
  · intro m a hI
    obtain ⟨i1, i1b, i2⟩ := hI
    rw [Nat.sub_self, fsS_0] at i2
    show Ok (fX12_flash_b26 N s x1 x2 _ _ a ((F - 2 + 1 : Nat) : Int) th me mc be) _
    unfold fX12_flash_b26 fX12_flash_j69
    rw [(show ((2 : Int)).toNat = 2 from rfl), s2]
    refine Ok.gd (by omega) (Ok.ltn (by omega) (Ok.eq (by omega) (fun q => Ok.ret ?_) (fun q => Ok.ret ?_)))
    · rw [if_pos q] at i2; exact i2
    · rw [if_neg q] at i2; exact i2
theorem flash_j {N : Nat} {d cu sk se we : Nat → Int} {W H F : Nat} {lk many th : Int} {c so fo me mc be : Nat → Int} {s : Nat → Int} {x1 x2 : Int} (hs : SR s d cu sk se we W H F) (hv : FV d cu sk se we W H F) (hN : 400 < N) (hl : LkI d cu sk se we W H F lk c many so fo) (hx1 : -2147483648 ≤ x1 ∧ x1 < 2147483648) (hx2 : -2147483648 ≤ x2 ∧ x2 < 2147483648) : Ok (fX11_flash N W H F d cu se lk c many so fo x1 x2) (fun r => LkI d cu sk se we W H F r.2.1 r.2.2.1 r.2.2.2.1 r.2.2.2.2.1 r.2.2.2.2.2 ∧ Ok (fX12_flash N s th me mc be x1 x2) (fun q => r.1 = q.1)) := by
  unfold fX11_flash fX12_flash
  refine Ok.lt (by omega) (fun q => Ok.ret ⟨hl, Ok.ltp (by omega) (Ok.ret rfl)⟩) (fun q => ?_)
  refine Ok.lt (by omega) (fun q2 => Ok.ret ⟨hl, Ok.ltn (by omega) (Ok.ltp (by omega) (Ok.ret rfl))⟩) (fun q2 => ?_)
  refine Ok.bind (looked_ok hv hN hl) (fun r2 h2 => ?_)
  refine Ok.mono (cflash hv h2.2 hN (by omega) (by omega)) (fun r hr => ?_)
  rw [hr]
  refine ⟨Or.inr h2, Ok.ltn (by omega) (Ok.ltn (by omega) (Ok.bind (mlays_ok hs hv (by omega)) (fun a3 b3 => ?_)))⟩
  exact Ok.mono (mflash hs.2.2.1 hv b3 hN (by omega) (by omega)) (fun q hq => hq.symm)
end PH
