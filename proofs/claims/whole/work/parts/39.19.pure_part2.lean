/-! Parting, second part. -/
section PQ
theorem ptS_b {C : Nat → Int} (hC : RowB C) {F : Nat} (hF : F ≤ 24) {E : Int} (hE : 1000000 ≤ E) {k f : Nat} (hk : k ≤ 8) (hf : f ≤ F) : 0 ≤ ptS C F E k f ∧ ptS C F E k f ≤ E := by
  have h := ptS_fin hC hF hE k hk f hf
  rcases Classical.em (fnP F k f) with y | y
  · have := h.1 y; omega
  · have := (h.2 y).1; omega
theorem leastOf_ok {N F k f : Nat} {C co le : Nat → Int} (hF : F ≤ 24) (hN : 400 < N) (hk : k < 8) (hf : f < F) (hC : RowB C) (hco : CoR C F co) (hle : ∀ e, e ≤ F → le (25 * k + e) = ptS C F 1000000 k e) : Ok (fX5_leastOf N F co le ((k + 1 : Nat) : Int) f) (fun r => r = ptS C F 1000000 (k + 1) f) := by
  unfold fX5_leastOf
  rw [show (f : Int) + 1 = ((f + 1 + 0 : Nat) : Int) by omega]
  refine Ok.loop (fun m j a => fX5_leastOf_L8 N F co le ((k + 1 : Nat) : Int) f (fX5_leastOf_j36 N F co le ((k + 1 : Nat) : Int) f) m a ((f + 1 + j : Nat) : Int)) (F - f) (fun j a => a = mfS 1000000 (fun j => coS C f (f + j) + ptS C F 1000000 k (f + j + 1)) j) _ ?_ ?_ N 0 1000000 (by omega) (by omega) rfl
  · intro m j a hj hI ih
    show Ok (fX5_leastOf_b8 N F co le ((k + 1 : Nat) : Int) f _ _ a ((f + 1 + j : Nat) : Int)) _
    unfold fX5_leastOf_b8
    refine Ok.ltn (by omega) (Ok.bind (costBy_ok hF hk (by omega) (by omega) hco) (fun r2 h2 => ?_))
    rw [hle (f + 1 + j) (by omega), show f + 1 + j - 1 = f + j by omega, show f + 1 + j = f + j + 1 by omega] at h2
    have hb1 := coS_b hC (a := f) (e := f + j) (by omega) (by omega)
    have hb2 := ptS_b hC hF (E := 1000000) (by omega) (k := k) (f := f + j + 1) (by omega) (by omega)
    have hb3 := (mfS_le (E := 1000000) (g := fun j => coS C f (f + j) + ptS C F 1000000 k (f + j + 1)) (n := j)).1
    have hb4 : 0 ≤ mfS 1000000 (fun j => coS C f (f + j) + ptS C F 1000000 k (f + j + 1)) j := by
      rcases mfS_in (E := 1000000) (g := fun j => coS C f (f + j) + ptS C F 1000000 k (f + j + 1)) (n := j) with z | ⟨i, z1, z2⟩
      · omega
      · have z2' : mfS 1000000 (fun j => coS C f (f + j) + ptS C F 1000000 k (f + j + 1)) j = coS C f (f + i) + ptS C F 1000000 k (f + i + 1) := z2
        have hb1 := coS_b hC (a := f) (e := f + i) (by omega) (by omega)
        have hb2 := ptS_b hC hF (E := 1000000) (by omega) (k := k) (f := f + i + 1) (by omega) (by omega)
        omega
    rw [mnZ_min (by omega), show ((f + 1 + j : Nat) : Int) + 1 = ((f + 1 + (j + 1) : Nat) : Int) by omega]
    refine ih _ ?_
    rw [mfS_succ, ← hI, h2]
  · intro m a hI
    show Ok (fX5_leastOf_b8 N F co le ((k + 1 : Nat) : Int) f _ _ a ((f + 1 + (F - f) : Nat) : Int)) _
    unfold fX5_leastOf_b8 fX5_leastOf_j36
    exact Ok.ltp (by omega) (Ok.ret hI)
def PtR (C : Nat → Int) (F : Nat) (pf : Int) (co le : Nat → Int) : Prop := pf = (F : Int) ∧ CoR C F co ∧ LeR C F 1000000 8 le
theorem work_ok {N F : Nat} {C c gp su co le : Nat → Int} {rd pf : Int} (hF : F ≤ 24) (hN : 400 < N) (hc : CR C F c) (hC : RowB C) (hB : RowB c) (h : rd = 0 ∨ (rd = 1 ∧ PtR C F pf co le)) : Ok (fX5_work N c rd pf gp su co le F) (fun r => r.1 = 1 ∧ PtR C F r.2.1 r.2.2.2.2.1 r.2.2.2.2.2) := by
  unfold fX5_work
  rcases h with h | h
  · refine Ok.eqp h (Ok.bind (gaps_ok hF hN hc hC hB) (fun g hg => ?_))
    refine Ok.loop (fun m i (x : (Nat → Int) × (Nat → Int)) => fX5_work_L20 N c F (fX5_work_j39 N c F) m (i : Int) rd (F : Int) g x.1 x.2 le) F (fun i x => ∀ a e, a < i → a ≤ e → e < F → x.2 (24 * a + e) = coS C a e) _ ?_ ?_ N 0 (su, co) (by omega) (by omega) (fun a e h => by omega)
    · intro m i x hi hI ih
      show Ok (fX5_work_b20 N c F _ _ (i : Int) rd (F : Int) g x.1 x.2 le) _
      unfold fX5_work_b20
      refine Ok.ltp (by omega) (Ok.bind (addCosts_ok hF hi hN hC hg) (fun r4 h4 => ih (_, _) ?_))
      intro a e h1 h2 h3
      show r4.2 _ = _
      by_cases z : a = i
      · rw [z]; exact h4.1 e (by omega) h3
      · rw [h4.2 _ (by omega)]; exact hI a e (by omega) h2 h3
    · intro m x hI
      show Ok (fX5_work_b20 N c F _ _ (F : Int) rd (F : Int) g x.1 x.2 le) _
      unfold fX5_work_b20 fX5_work_j39
      have hco : CoR C F x.2 := fun a e h1 h2 => hI a e (by omega) h1 h2
      refine Ok.ltn (by omega) (Ok.bind (fill_ok (n := 225) (by omega) (by omega)) (fun r5 h5 => Ok.gd (by omega) ?_))
      rw [Int.toNat_natCast]
      refine Ok.loop (fun m i (y : Nat → Int) => fX5_work_L60 N c F (fX5_work_j109 N c F) m ((i + 1 : Nat) : Int) rd (F : Int) g x.1 x.2 y) 8 (fun i y => (∀ k f, k ≤ i → f ≤ F → y (25 * k + f) = ptS C F 1000000 k f) ∧ ∀ j, 25 * (i + 1) ≤ j → j < 225 → y j = 1000000) _ ?_ ?_ N 0 (uZ r5 F 0) (by omega) (by omega) ⟨?_, ?_⟩
      · intro m2 i y hi hI2 ih2
        obtain ⟨k1, k2⟩ := hI2
        show Ok (fX5_work_b60 N c F _ _ ((i + 1 : Nat) : Int) rd (F : Int) g x.1 x.2 y) _
        unfold fX5_work_b60
        refine Ok.ltn (by omega) ?_
        refine Ok.loop (fun n f (z : Nat → Int) => fX5_work_L69 N c F (fX5_work_j103 N c F (fX5_work_L60 N c F (fX5_work_j109 N c F) m2) (fX5_work_j109 N c F)) n ((i + 1 : Nat) : Int) (f : Int) rd (F : Int) g x.1 x.2 z) F (fun f z => (∀ j, j < 25 * (i + 1) → z j = y j) ∧ (∀ f', f' < f → z (25 * (i + 1) + f') = ptS C F 1000000 (i + 1) f') ∧ ∀ j, 25 * (i + 1) + f ≤ j → j < 225 → z j = 1000000) _ ?_ ?_ N 0 y (by omega) (by omega) ⟨fun j _ => rfl, fun f' h => by omega, fun j h1 h2 => k2 j (by omega) h2⟩
        · intro n f z hf hI3 ih3
          obtain ⟨l1, l2, l3⟩ := hI3
          show Ok (fX5_work_b69 N c F _ _ ((i + 1 : Nat) : Int) (f : Int) rd (F : Int) g x.1 x.2 z) _
          unfold fX5_work_b69
          refine Ok.ltp (by omega) (Ok.bind (leastOf_ok hF hN hi hf hC hco (fun e he => by rw [l1 _ (by omega)]; exact k1 i e (by omega) he)) (fun r9 h9 => ?_))
          rw [show (((i + 1 : Nat) : Int) * 25 + (f : Int)).toNat = 25 * (i + 1) + f by omega]
          refine Ok.gd (by omega) (ih3 _ ⟨?_, ?_, ?_⟩)
          · intro j hj; rw [uZ_ne (by omega)]; exact l1 j hj
          · intro f' hf'
            by_cases w : f' = f
            · rw [w, uZ_at]; exact h9
            · rw [uZ_ne (by omega)]; exact l2 f' (by omega)
          · intro j h1 h2; rw [uZ_ne (by omega)]; exact l3 j (by omega) h2
        · intro n z hI3
          obtain ⟨l1, l2, l3⟩ := hI3
          show Ok (fX5_work_b69 N c F _ _ ((i + 1 : Nat) : Int) (F : Int) rd (F : Int) g x.1 x.2 z) _
          unfold fX5_work_b69 fX5_work_j103
          refine Ok.ltn (by omega) ?_
          rw [show ((i + 1 : Nat) : Int) + 1 = ((i + 1 + 1 : Nat) : Int) by omega]
          refine ih2 z ⟨?_, ?_⟩
          · intro k f hk hf
            by_cases w : k = i + 1
            · rw [w]
              by_cases w2 : f = F
              · rw [w2, l3 _ (by omega) (by omega), ptS_succ, Nat.sub_self]; rfl
              · exact l2 f (by omega)
            · rw [l1 _ (by omega)]; exact k1 k f (by omega) hf
          · intro j h1 h2; exact l3 j (by omega) h2
      · intro m2 y hI2
        obtain ⟨k1, k2⟩ := hI2
        show Ok (fX5_work_b60 N c F _ _ ((8 + 1 : Nat) : Int) rd (F : Int) g x.1 x.2 y) _
        unfold fX5_work_b60 fX5_work_j109
        exact Ok.ltp (by omega) (Ok.ret ⟨rfl, rfl, hco, k1⟩)
      · intro k f hk hf
        rw [show 25 * k + f = f by omega, show k = 0 by omega]
        show uZ r5 F 0 f = if f = F then 0 else 1000000
        by_cases w : f = F
        · rw [w, uZ_at, if_pos rfl]
        · rw [uZ_ne w, if_neg w, h5 f, if_pos (by omega)]
      · intro j h1 h2
        rw [uZ_ne (by omega), h5 j, if_pos h2]
  · exact Ok.eqn (by omega) (Ok.ret h)
/-- where the next part starts -/
def nxG (C : Nat → Int) (F k f : Nat) : Nat → Int := fun j => if coS C f (f + j) + ptS C F 1000000 k (f + j + 1) ≤ ptS C F 1000000 (k + 1) f then 1 else 0
def nxS (C : Nat → Int) (F k f : Nat) : Nat := f + 1 + lsF (nxG C F k f) 1 (F - f - 1)
def stN (C : Nat → Int) (F n : Nat) : Nat → Nat
  | 0 => 0
  | i + 1 => nxS C F (n - 1 - i) (stN C F n i)
theorem stN_succ (C : Nat → Int) (F n i : Nat) : stN C F n (i + 1) = nxS C F (n - 1 - i) (stN C F n i) := rfl
theorem nxG_t {C : Nat → Int} {F k f j : Nat} (h : coS C f (f + j) + ptS C F 1000000 k (f + j + 1) ≤ ptS C F 1000000 (k + 1) f) : nxG C F k f j = 1 := if_pos h
theorem nxG_f {C : Nat → Int} {F k f j : Nat} (h : ¬ coS C f (f + j) + ptS C F 1000000 k (f + j + 1) ≤ ptS C F 1000000 (k + 1) f) : nxG C F k f j = 0 := if_neg h
/-- the least is met -/
theorem nx_met {C : Nat → Int} (hC : RowB C) {F k f : Nat} (hF : F ≤ 24) (hk : k < 8) (hf : fnP F (k + 1) f) : ∃ j, j < F - f ∧ coS C f (f + j) + ptS C F 1000000 k (f + j + 1) = ptS C F 1000000 (k + 1) f := by
  have hfF : f < F := by unfold fnP at hf; omega
  have h1 := (ptS_fin hC hF (E := 1000000) (by omega) (k + 1) (by omega) f (by omega)).1 hf
  rw [ptS_succ] at h1
  rcases mfS_in (E := 1000000) (g := fun j => coS C f (f + j) + ptS C F 1000000 k (f + j + 1)) (n := F - f) with z | ⟨j, z1, z2⟩
  · exfalso; omega
  · exact ⟨j, z1, by rw [ptS_succ]; exact z2.symm⟩
theorem nx_fin {C : Nat → Int} (hC : RowB C) {F k f : Nat} (hF : F ≤ 24) (hk : k < 8) (hf : fnP F (k + 1) f) : fnP F k (nxS C F k f) ∧ coS C f (nxS C F k f - 1) + ptS C F 1000000 k (nxS C F k f) ≤ ptS C F 1000000 (k + 1) f ∧ f < nxS C F k f ∧ nxS C F k f ≤ F := by
  have hfF : f < F := by unfold fnP at hf; omega
  have hsp := lsF_spec (nxG C F k f) 1 (F - f - 1)
  obtain ⟨l, hl⟩ : ∃ l, l = lsF (nxG C F k f) 1 (F - f - 1) := ⟨_, rfl⟩
  rw [← hl] at hsp
  have hcond : coS C f (f + l) + ptS C F 1000000 k (f + l + 1) ≤ ptS C F 1000000 (k + 1) f := by
    rcases Nat.lt_or_ge l (F - f - 1) with q | q
    · have h1 := hsp.2.2 q
      rcases Classical.em (coS C f (f + l) + ptS C F 1000000 k (f + l + 1) ≤ ptS C F 1000000 (k + 1) f) with y | y
      · exact y
      · rw [nxG_f y] at h1; omega
    · obtain ⟨j, j1, j2⟩ := nx_met hC hF hk hf
      by_cases w : j = l
      · rw [← w]; omega
      · have h1 := hsp.2.1 j (by omega)
        rw [nxG_t (by omega)] at h1; omega
  have en : nxS C F k f = f + l + 1 := by unfold nxS; rw [← hl]; omega
  rw [en, show f + l + 1 - 1 = f + l by omega]
  refine ⟨?_, hcond, by omega, by omega⟩
  rcases Classical.em (fnP F k (f + l + 1)) with y | y
  · exact y
  · have h2 := ((ptS_fin hC hF (E := 1000000) (by omega) k (by omega) (f + l + 1) (by omega)).2 y).1
    have h3 := ((ptS_fin hC hF (E := 1000000) (by omega) (k + 1) (by omega) f (by omega)).1 hf).2
    have h4 := coS_b hC (a := f) (e := f + l) (by omega) (by omega)
    exfalso; omega
theorem stN_fin {C : Nat → Int} (hC : RowB C) {F n : Nat} (hF : F ≤ 24) (hn : 1 ≤ n ∧ n ≤ 8) (hnF : n ≤ F) : ∀ i, i < n → fnP F (n - i) (stN C F n i) := by
  intro i
  induction i with
  | zero => intro _; exact Or.inr ⟨by omega, by show 0 + (n - 0) ≤ F; omega⟩
  | succ i ih =>
    intro hi
    have h1 := ih (by omega)
    rw [show n - i = (n - 1 - i) + 1 by omega] at h1
    have h2 := (nx_fin hC hF (by omega) h1).1
    rw [stN_succ, show n - (i + 1) = n - 1 - i by omega]; exact h2
theorem start_ok2 {N F n k : Nat} {C co le : Nat → Int} (hF : F ≤ 24) (hN : 400 < N) (hC : RowB C) (hn : 1 ≤ n ∧ n ≤ 8) (hnF : n ≤ F) (hk : k < n) (hco : CoR C F co) (hle : LeR C F 1000000 8 le) : Ok (fX5_start N F co le n k) (fun r => r = (stN C F n k : Int)) := by
  unfold fX5_start
  refine Ok.loop (fun m i (a : Int) => fX5_start_L5 N F co le n k (fX5_start_j65 N F co le n k) m a (i : Int)) k (fun i a => a = (stN C F n i : Int)) _ ?_ ?_ N 0 0 (by omega) (by omega) rfl
  · intro m i a hi hI ih
    show Ok (fX5_start_b5 N F co le n k _ _ a (i : Int)) _
    unfold fX5_start_b5
    have hfin := stN_fin hC hF hn hnF i (by omega)
    obtain ⟨K, hK⟩ : ∃ K, n - i = K + 1 := ⟨n - i - 1, by omega⟩
    rw [hK] at hfin
    obtain ⟨f, hf⟩ : ∃ f, f = stN C F n i := ⟨_, rfl⟩
    rw [← hf] at hfin hI
    have hfF : f < F := by unfold fnP at hfin; omega
    have hnx : stN C F n (i + 1) = nxS C F K f := by rw [stN_succ, ← hf, show n - 1 - i = K by omega]
    rw [hI, show (n : Int) - (i : Int) = ((K + 1 : Nat) : Int) by omega, show (f : Int) + 1 = ((f + 1 + 0 : Nat) : Int) by omega]
    refine Ok.ltp (by omega) ?_
    have hpb := (ptS_fin hC hF (E := 1000000) (by omega) (K + 1) (by omega) f (by omega)).1 hfin
    have fin : ∀ j, j ≤ F - f - 1 → lsF (nxG C F K f) 1 (F - f - 1) = j → Ok (fX5_start_j56 N F co le n k (fX5_start_L5 N F co le n k (fX5_start_j65 N F co le n k) m) (fX5_start_j65 N F co le n k) (i : Int) ((f + 1 + j : Nat) : Int)) (fun r => r = (stN C F n k : Int)) := by
      intro j hj hl
      unfold fX5_start_j56
      exact ih _ (by rw [hnx]; unfold nxS; rw [hl])
    refine Ok.loop (fun q j (_ : Unit) => fX5_start_L22 N F co le n k (fX5_start_j56 N F co le n k (fX5_start_L5 N F co le n k (fX5_start_j65 N F co le n k) m) (fX5_start_j65 N F co le n k)) q (f : Int) (i : Int) ((K + 1 : Nat) : Int) ((f + 1 + j : Nat) : Int)) (F - f - 1) (fun j _ => ∀ y, y < j → nxG C F K f y < 1) _ ?_ ?_ N 0 () (by omega) (by omega) (fun y hy => by omega)
    · intro q j _ hj hI2 ih2
      show Ok (fX5_start_b22 N F co le n k _ _ (f : Int) (i : Int) ((K + 1 : Nat) : Int) ((f + 1 + j : Nat) : Int)) _
      unfold fX5_start_b22
      refine Ok.ltp (by omega) (Ok.bind (costBy_ok hF (by omega) (by omega) (by omega) hco) (fun r3 h3 => Ok.bind (least_ok (by omega) (by omega)) (fun r4 h4 => ?_)))
      rw [hle K (f + 1 + j) (by omega) (by omega), show f + 1 + j - 1 = f + j by omega, show f + 1 + j = f + j + 1 by omega] at h3
      rw [hle (K + 1) f (by omega) (by omega)] at h4
      have hb1 := coS_b hC (a := f) (e := f + j) (by omega) (by omega)
      have hb2 := ptS_b hC hF (E := 1000000) (by omega) (k := K) (f := f + j + 1) (by omega) (by omega)
      refine Ok.lt (by omega) (fun z => ?_) (fun z => ?_)
      · rw [show ((f + 1 + j : Nat) : Int) + 1 = ((f + 1 + (j + 1) : Nat) : Int) by omega]
        refine ih2 () ?_
        intro y hy
        by_cases w : y = j
        · rw [w, nxG_f (by omega)]; omega
        · exact hI2 y (by omega)
      · exact fin j (by omega) (lsF_eq (by omega) hI2 (fun _ => by rw [nxG_t (by omega)]; omega))
    · intro q _ hI2
      show Ok (fX5_start_b22 N F co le n k _ _ (f : Int) (i : Int) ((K + 1 : Nat) : Int) ((f + 1 + (F - f - 1) : Nat) : Int)) _
      unfold fX5_start_b22
      exact Ok.ltn (by omega) (fin (F - f - 1) (by omega) (lsF_eq (by omega) hI2 (fun z => by omega)))
  · intro m a hI
    show Ok (fX5_start_b5 N F co le n k _ _ a (k : Int)) _
    unfold fX5_start_b5 fX5_start_j65
    exact Ok.ltn (by omega) (Ok.ret hI)
end PQ
