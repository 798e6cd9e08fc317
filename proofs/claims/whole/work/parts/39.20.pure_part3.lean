/-! Parting, third part: the reference. -/
section PR
theorem laysParts_ok {N F n : Nat} {s C c rc pc : Nat → Int} (s2 : s 2 = (F : Int)) (hF : F ≤ 24) (hN : 400 < N) (hn : n ≤ 8) (hc : CR C F c) (hC : RowB C) : Ok (fX12_laysParts N s c rc pc n) (fun r => CoR C F r.1 ∧ LeR C F 100000000 n r.2) := by
  unfold fX12_laysParts
  rw [(show ((2 : Int)).toNat = 2 from rfl), s2]
  refine Ok.gd (by omega) ?_
  refine Ok.loop (fun m i (x : Nat → Int) => fX12_laysParts_L9 N s c n (fX12_laysParts_j61 N s c n) m (F : Int) (i : Int) x pc) F (fun i x => ∀ a e, a < i → a ≤ e → e < F → x (24 * a + e) = coS C a e) _ ?_ ?_ N 0 rc (by omega) (by omega) (fun a e h => by omega)
  · intro m i x hi hI ih
    show Ok (fX12_laysParts_b9 N s c n _ _ (F : Int) (i : Int) x pc) _
    unfold fX12_laysParts_b9
    refine Ok.ltp (by omega) ?_
    refine Ok.loop (fun q j (y : Nat → Int) => fX12_laysParts_L17 N s c n (fX12_laysParts_j55 N s c n (fX12_laysParts_L9 N s c n (fX12_laysParts_j61 N s c n) m) (fX12_laysParts_j61 N s c n)) q (F : Int) (i : Int) (j : Int) y pc) F (fun j y => i ≤ j ∧ (∀ a e, a < i → a ≤ e → e < F → y (24 * a + e) = coS C a e) ∧ ∀ e, i ≤ e → e < j → y (24 * i + e) = coS C i e) _ ?_ ?_ N i x (by omega) (by omega) ⟨by omega, hI, fun e h1 h2 => by omega⟩
    · intro q j y hj hI2 ih2
      obtain ⟨k0, k1, k2⟩ := hI2
      show Ok (fX12_laysParts_b17 N s c n _ _ (F : Int) (i : Int) (j : Int) y pc) _
      unfold fX12_laysParts_b17
      have hmd := mdS_b (awS C i (j + 1 - i)) i (j - i)
      refine Ok.ltp (by omega) (Ok.bind (midst_ok hc hC hF k0 hj (by omega)) (fun r4 h4 => ?_))
      rw [h4]
      refine Ok.bind (awayFrom_ok hc hC hF (by omega) k0 hj (by omega)) (fun r5 h5 => ?_)
      rw [show (24 * (i : Int) + (j : Int)).toNat = 24 * i + j by omega]
      refine Ok.gd (by omega) (ih2 _ ⟨by omega, ?_, ?_⟩)
      · intro a e h1 h2 h3
        rw [uZ_ne (by omega)]; exact k1 a e h1 h2 h3
      · intro e h1 h2
        by_cases z : e = j
        · rw [z, uZ_at, h5]; exact mn_md (awS C i (j + 1 - i)) i (j - i)
        · rw [uZ_ne (by omega)]; exact k2 e h1 (by omega)
    · intro q y hI2
      obtain ⟨k0, k1, k2⟩ := hI2
      show Ok (fX12_laysParts_b17 N s c n _ _ (F : Int) (i : Int) (F : Int) y pc) _
      unfold fX12_laysParts_b17 fX12_laysParts_j55
      refine Ok.ltn (by omega) ?_
      rw [show (i : Int) + 1 = ((i + 1 : Nat) : Int) by omega]
      refine ih y ?_
      intro a e h1 h2 h3
      by_cases z : a = i
      · rw [z]; exact k2 e (by omega) h3
      · exact k1 a e (by omega) h2 h3
  · intro m x hI
    have hco : CoR C F x := fun a e h1 h2 => hI a e (by omega) h1 h2
    show Ok (fX12_laysParts_b9 N s c n _ _ (F : Int) (F : Int) x pc) _
    unfold fX12_laysParts_b9 fX12_laysParts_j61
    refine Ok.ltn (by omega) ?_
    refine Ok.loop (fun m i (y : Nat → Int) => fX12_laysParts_L63 N s c n (fX12_laysParts_j92 N s c n) m (F : Int) (i : Int) x y) (F + 1) (fun i y => ∀ f, f < i → y f = ptS C F 100000000 0 f) _ ?_ ?_ N 0 pc (by omega) (by omega) (fun f h => by omega)
    · intro m2 i y hi hI2 ih2
      show Ok (fX12_laysParts_b63 N s c n _ _ (F : Int) (i : Int) x y) _
      unfold fX12_laysParts_b63
      rw [Int.toNat_natCast]
      have nx : ∀ v, v = ptS C F 100000000 0 i → ∀ f, f < i + 1 → uZ y i v f = ptS C F 100000000 0 f := by
        intro v hv f hf
        by_cases z : f = i
        · rw [z, uZ_at]; exact hv
        · rw [uZ_ne z]; exact hI2 f (by omega)
      refine Ok.ltn (by omega) (Ok.eq (by omega) (fun z => Ok.gd (by omega) (ih2 _ (nx 0 ?_))) (fun z => Ok.gd (by omega) (ih2 _ (nx 100000000 ?_))))
      · show (0 : Int) = if i = F then 0 else 100000000
        rw [if_pos (by omega)]
      · show (100000000 : Int) = if i = F then 0 else 100000000
        rw [if_neg (by omega)]
    · intro m2 y hI2
      show Ok (fX12_laysParts_b63 N s c n _ _ (F : Int) ((F + 1 : Nat) : Int) x y) _
      unfold fX12_laysParts_b63 fX12_laysParts_j92
      refine Ok.ltp (by omega) ?_
      refine Ok.loop (fun m i (z : Nat → Int) => fX12_laysParts_L94 N s c n (fX12_laysParts_j203 N s c n) m (F : Int) ((i + 1 : Nat) : Int) x z) n (fun i z => ∀ k f, k ≤ i → f ≤ F → z (25 * k + f) = ptS C F 100000000 k f) _ ?_ ?_ N 0 y (by omega) (by omega) ?_
      · intro m3 i z hi hI3 ih3
        show Ok (fX12_laysParts_b94 N s c n _ _ (F : Int) ((i + 1 : Nat) : Int) x z) _
        unfold fX12_laysParts_b94
        refine Ok.ltn (by omega) ?_
        refine Ok.loop (fun m f (w : Nat → Int) => fX12_laysParts_L102 N s c n (fX12_laysParts_j197 N s c n (fX12_laysParts_L94 N s c n (fX12_laysParts_j203 N s c n) m3) (fX12_laysParts_j203 N s c n)) m (F : Int) ((i + 1 : Nat) : Int) (f : Int) x w) (F + 1) (fun f w => (∀ k f', k ≤ i → f' ≤ F → w (25 * k + f') = ptS C F 100000000 k f') ∧ ∀ f', f' < f → w (25 * (i + 1) + f') = ptS C F 100000000 (i + 1) f') _ ?_ ?_ N 0 z (by omega) (by omega) ⟨hI3, fun f' h => by omega⟩
        · intro m4 f w hf hI4 ih4
          obtain ⟨l1, l2⟩ := hI4
          show Ok (fX12_laysParts_b102 N s c n _ _ (F : Int) ((i + 1 : Nat) : Int) (f : Int) x w) _
          unfold fX12_laysParts_b102
          refine Ok.ltn (by omega) ?_
          have ef : (f : Int) = ((f + 0 : Nat) : Int) := by omega
          have key : Ok (fX12_laysParts_L117 N s c n (fX12_laysParts_j177 N s c n (fX12_laysParts_L102 N s c n (fX12_laysParts_j197 N s c n (fX12_laysParts_L94 N s c n (fX12_laysParts_j203 N s c n) m3) (fX12_laysParts_j203 N s c n)) m4) (fX12_laysParts_j197 N s c n (fX12_laysParts_L94 N s c n (fX12_laysParts_j203 N s c n) m3) (fX12_laysParts_j203 N s c n))) N (F : Int) ((i + 1 : Nat) : Int) (f : Int) 100000000 ((f + 0 : Nat) : Int) x w) (fun r => CoR C F r.1 ∧ LeR C F 100000000 n r.2) := by
            refine Ok.loop (fun m j (a : Int) => fX12_laysParts_L117 N s c n (fX12_laysParts_j177 N s c n (fX12_laysParts_L102 N s c n (fX12_laysParts_j197 N s c n (fX12_laysParts_L94 N s c n (fX12_laysParts_j203 N s c n) m3) (fX12_laysParts_j203 N s c n)) m4) (fX12_laysParts_j197 N s c n (fX12_laysParts_L94 N s c n (fX12_laysParts_j203 N s c n) m3) (fX12_laysParts_j203 N s c n))) m (F : Int) ((i + 1 : Nat) : Int) (f : Int) a ((f + j : Nat) : Int) x w) (F - f) (fun j a => 0 ≤ a ∧ a ≤ 100000000 ∧ a = mfS 100000000 (fun j => coS C f (f + j) + ptS C F 100000000 i (f + j + 1)) j) _ ?_ ?_ N 0 100000000 (by omega) (by omega) ⟨by omega, by omega, rfl⟩
            · intro m5 j a hj hI5 ih5
              obtain ⟨p1, p2, p3⟩ := hI5
              show Ok (fX12_laysParts_b117 N s c n _ _ (F : Int) ((i + 1 : Nat) : Int) (f : Int) a ((f + j : Nat) : Int) x w) _
              unfold fX12_laysParts_b117
              have hb1 := coS_b hC (a := f) (e := f + j) (by omega) (by omega)
              have hb2 := ptS_b hC hF (E := 100000000) (by omega) (k := i) (f := f + j + 1) (by omega) (by omega)
              rw [show (24 * (f : Int) + ((f + j : Nat) : Int)).toNat = 24 * f + (f + j) by omega, show (25 * (((i + 1 : Nat) : Int) - 1) + ((f + j : Nat) : Int) + 1).toNat = 25 * i + (f + j + 1) by omega, hco f (f + j) (by omega) (by omega), l1 i (f + j + 1) (by omega) (by omega), show ((f + j : Nat) : Int) + 1 = ((f + (j + 1) : Nat) : Int) by omega]
              refine Ok.ltp (by omega) (Ok.gd (by omega) (Ok.gd (by omega) (Ok.lt (by omega) (fun q => ih5 _ ⟨by omega, by omega, ?_⟩) (fun q => ih5 _ ⟨p1, p2, ?_⟩))))
              · rw [mfS_succ, ← p3, if_pos q]
              · rw [mfS_succ, ← p3, if_neg (by omega)]
            · intro m5 a hI5
              obtain ⟨p1, p2, p3⟩ := hI5
              show Ok (fX12_laysParts_b117 N s c n _ _ (F : Int) ((i + 1 : Nat) : Int) (f : Int) a ((f + (F - f) : Nat) : Int) x w) _
              unfold fX12_laysParts_b117 fX12_laysParts_j177
              rw [show (25 * ((i + 1 : Nat) : Int) + (f : Int)).toNat = 25 * (i + 1) + f by omega, show (f : Int) + 1 = ((f + 1 : Nat) : Int) by omega]
              refine Ok.ltn (by omega) (Ok.gd (by omega) (ih4 _ ⟨?_, ?_⟩))
              · intro k f' hk hf'
                rw [uZ_ne (by omega)]; exact l1 k f' hk hf'
              · intro f' hf'
                by_cases q : f' = f
                · rw [q, uZ_at, p3, ptS_succ]
                · rw [uZ_ne (by omega)]; exact l2 f' (by omega)
          exact key
        · intro m4 w hI4
          obtain ⟨l1, l2⟩ := hI4
          show Ok (fX12_laysParts_b102 N s c n _ _ (F : Int) ((i + 1 : Nat) : Int) ((F + 1 : Nat) : Int) x w) _
          unfold fX12_laysParts_b102 fX12_laysParts_j197
          refine Ok.ltp (by omega) ?_
          rw [show ((i + 1 : Nat) : Int) + 1 = ((i + 1 + 1 : Nat) : Int) by omega]
          refine ih3 w ?_
          intro k f hk hf
          by_cases q : k = i + 1
          · rw [q]; exact l2 f (by omega)
          · exact l1 k f (by omega) hf
      · intro m3 z hI3
        show Ok (fX12_laysParts_b94 N s c n _ _ (F : Int) ((n + 1 : Nat) : Int) x z) _
        unfold fX12_laysParts_b94 fX12_laysParts_j203
        exact Ok.ltp (by omega) (Ok.ret ⟨hco, hI3⟩)
      · intro k f hk hf
        rw [show k = 0 by omega, show 25 * 0 + f = f by omega]
        exact hI2 f (by omega)
/-- the comparison does not see the ends -/
theorem nx_far {C : Nat → Int} (hC : RowB C) {F k f j : Nat} (hF : F ≤ 24) (hk : k < 8) (hf : fnP F (k + 1) f) (hj : j < F - f) : (ptS C F 100000000 (k + 1) f < coS C f (f + j) + ptS C F 100000000 k (f + j + 1)) ↔ ¬ coS C f (f + j) + ptS C F 1000000 k (f + j + 1) ≤ ptS C F 1000000 (k + 1) f := by
  have hfF : f < F := by unfold fnP at hf; omega
  have h1 := (ptS_fin hC hF (E := 100000000) (by omega) (k + 1) (by omega) f (by omega)).1 hf
  have h2 := ptS_fin hC hF (E := 100000000) (by omega) k (by omega) (f + j + 1) (by omega)
  have h4 := coS_b hC (a := f) (e := f + j) (by omega) (by omega)
  rcases Classical.em (fnP F k (f + j + 1)) with y | y
  · have := h2.1 y; omega
  · have := h2.2 y; omega
theorem mparted {N F n k : Nat} {s C me mc be rc pc : Nat → Int} {th : Int} (hF : F ≤ 24) (hN : 400 < N) (hC : RowB C) (hn : 1 ≤ n ∧ n ≤ 8) (hnF : n ≤ F) (hk : k < n) (hco : CoR C F rc) (hle : LeR C F 100000000 n pc) : Ok (fX12_parted_L71 N s n k (fX12_parted_j144 N s n k) N 0 n th me mc be rc pc) (fun r => r.1 = (stN C F n k : Int)) := by
  refine Ok.loop (fun m i (a : Int) => fX12_parted_L71 N s n k (fX12_parted_j144 N s n k) m a ((n - i : Nat) : Int) th me mc be rc pc) k (fun i a => a = (stN C F n i : Int)) _ ?_ ?_ N 0 0 (by omega) (by omega) rfl
  · intro m i a hi hI ih
    show Ok (fX12_parted_b71 N s n k _ _ a ((n - i : Nat) : Int) th me mc be rc pc) _
    unfold fX12_parted_b71
    have hfin := stN_fin hC hF hn hnF i (by omega)
    obtain ⟨K, hK⟩ : ∃ K, n - i = K + 1 := ⟨n - i - 1, by omega⟩
    rw [hK] at hfin ⊢
    obtain ⟨f, hf⟩ : ∃ f, f = stN C F n i := ⟨_, rfl⟩
    rw [← hf] at hfin hI
    have hfF : f < F := by unfold fnP at hfin; omega
    have hnx : stN C F n (i + 1) = nxS C F K f := by rw [stN_succ, ← hf, show n - 1 - i = K by omega]
    rw [hI]
    refine Ok.ltp (by omega) ?_
    have hnf := nx_fin hC hF (by omega) hfin
    obtain ⟨l, hl⟩ : ∃ l, l = lsF (nxG C F K f) 1 (F - f - 1) := ⟨_, rfl⟩
    have hsp := lsF_spec (nxG C F K f) 1 (F - f - 1)
    rw [← hl] at hsp
    have en : nxS C F K f = f + l + 1 := by unfold nxS; rw [← hl]; omega
    rw [en, show f + l + 1 - 1 = f + l by omega] at hnf
    have hpb := ptS_b hC hF (E := 100000000) (by omega) (k := K + 1) (f := f) (by omega) (by omega)
    have key : Ok (fX12_parted_L82 N s n k (fX12_parted_j133 N s n k (fX12_parted_L71 N s n k (fX12_parted_j144 N s n k) m) (fX12_parted_j144 N s n k)) N (f : Int) ((K + 1 : Nat) : Int) ((f + 0 : Nat) : Int) th me mc be rc pc) (fun r => r.1 = (stN C F n k : Int)) := by
      refine Ok.loop (fun q j (_ : Unit) => fX12_parted_L82 N s n k (fX12_parted_j133 N s n k (fX12_parted_L71 N s n k (fX12_parted_j144 N s n k) m) (fX12_parted_j144 N s n k)) q (f : Int) ((K + 1 : Nat) : Int) ((f + j : Nat) : Int) th me mc be rc pc) l (fun _ _ => True) _ ?_ ?_ N 0 () (by omega) (by omega) trivial
      · intro q j _ hj _ ih2
        show Ok (fX12_parted_b82 N s n k _ _ (f : Int) ((K + 1 : Nat) : Int) ((f + j : Nat) : Int) th me mc be rc pc) _
        unfold fX12_parted_b82
        have hb1 := coS_b hC (a := f) (e := f + j) (by omega) (by omega)
        have hb2 := ptS_b hC hF (E := 100000000) (by omega) (k := K) (f := f + j + 1) (by omega) (by omega)
        rw [show (24 * (f : Int) + ((f + j : Nat) : Int)).toNat = 24 * f + (f + j) by omega, show (25 * (((K + 1 : Nat) : Int) - 1) + ((f + j : Nat) : Int) + 1).toNat = 25 * K + (f + j + 1) by omega, show (25 * ((K + 1 : Nat) : Int) + (f : Int)).toNat = 25 * (K + 1) + f by omega, hco f (f + j) (by omega) (by omega), hle K (f + j + 1) (by omega) (by omega), hle (K + 1) f (by omega) (by omega), show ((f + j : Nat) : Int) + 1 = ((f + (j + 1) : Nat) : Int) by omega]
        have h1 := hsp.2.1 j hj
        have h2 : ¬ coS C f (f + j) + ptS C F 1000000 K (f + j + 1) ≤ ptS C F 1000000 (K + 1) f := by
          intro y
          rw [nxG_t y] at h1; omega
        have h3 := (nx_far hC hF (by omega) hfin (by omega)).mpr h2
        exact Ok.gd (by omega) (Ok.gd (by omega) (Ok.gd (by omega) (Ok.ltp (by omega) (ih2 () trivial))))
      · intro q _ _
        show Ok (fX12_parted_b82 N s n k _ _ (f : Int) ((K + 1 : Nat) : Int) ((f + l : Nat) : Int) th me mc be rc pc) _
        unfold fX12_parted_b82 fX12_parted_j133
        have hb1 := coS_b hC (a := f) (e := f + l) (by omega) (by omega)
        have hb2 := ptS_b hC hF (E := 100000000) (by omega) (k := K) (f := f + l + 1) (by omega) (by omega)
        rw [show (24 * (f : Int) + ((f + l : Nat) : Int)).toNat = 24 * f + (f + l) by omega, show (25 * (((K + 1 : Nat) : Int) - 1) + ((f + l : Nat) : Int) + 1).toNat = 25 * K + (f + l + 1) by omega, show (25 * ((K + 1 : Nat) : Int) + (f : Int)).toNat = 25 * (K + 1) + f by omega, hco f (f + l) (by omega) (by omega), hle K (f + l + 1) (by omega) (by omega), hle (K + 1) f (by omega) (by omega)]
        have h3 : ¬ (ptS C F 100000000 (K + 1) f < coS C f (f + l) + ptS C F 100000000 K (f + l + 1)) := by
          intro y
          exact (nx_far hC hF (by omega) hfin (by omega)).mp y hnf.2.1
        refine Ok.gd (by omega) (Ok.gd (by omega) (Ok.gd (by omega) (Ok.ltn (by omega) ?_)))
        rw [show ((K + 1 : Nat) : Int) + -1 = ((n - (i + 1) : Nat) : Int) by omega, show ((f + l : Nat) : Int) + 1 = ((f + l + 1 : Nat) : Int) by omega]
        exact ih _ (by rw [hnx, en])
    exact key
  · intro m a hI
    show Ok (fX12_parted_b71 N s n k _ _ a ((n - k : Nat) : Int) th me mc be rc pc) _
    unfold fX12_parted_b71 fX12_parted_j144
    exact Ok.ltn (by omega) (Ok.ret hI)
theorem parted_j {N : Nat} {d cu sk se we : Nat → Int} {W H F : Nat} {lk many th rd pf : Int} {c so fo me mc be gp su co le rc pc : Nat → Int} {s : Nat → Int} {x1 x2 : Int} (hs : SR s d cu sk se we W H F) (hv : FV d cu sk se we W H F) (hN : 400 < N) (hl : LkI d cu sk se we W H F lk c many so fo) (hp : rd = 0 ∨ (rd = 1 ∧ PtR (CU d (W * H)) F pf co le)) (hx1 : -2147483648 ≤ x1 ∧ x1 < 2147483648) (hx2 : -2147483648 ≤ x2 ∧ x2 < 2147483648) : Ok (fX11_parted N W H F d cu se lk c many so fo rd pf gp su co le x1 x2) (fun r => LkI d cu sk se we W H F r.2.1 r.2.2.1 r.2.2.2.1 r.2.2.2.2.1 r.2.2.2.2.2.1 ∧ (r.2.2.2.2.2.2.1 = 0 ∨ (r.2.2.2.2.2.2.1 = 1 ∧ PtR (CU d (W * H)) F r.2.2.2.2.2.2.2.1 r.2.2.2.2.2.2.2.2.2.2.1 r.2.2.2.2.2.2.2.2.2.2.2)) ∧ Ok (fX12_parted N s th me mc be rc pc x1 x2) (fun q => r.1 = q.1)) := by
  have hF := hv.2.2.1
  have hC := CU_b (d := d) (size_b hv.1 hv.2.1).2
  have s2 := hs.2.2.1
  unfold fX11_parted fX12_parted
  rw [(show ((2 : Int)).toNat = 2 from rfl), s2]
  by_cases f1 : 1 ≤ x1 ∧ x1 ≤ 8
  · refine Ok.ltn (by omega) (Ok.ltn (by omega) ?_)
    refine Ok.lt (by omega) (fun q => Ok.ret ⟨hl, hp, Ok.bind (isIn_t (by omega) f1) (fun a1 b1 => Ok.eqn (by omega) (Ok.ltp (by omega) (Ok.ret rfl)))⟩) (fun q => ?_)
    refine Ok.lt (by omega) (fun q2 => Ok.ret ⟨hl, hp, Ok.bind (isIn_t (by omega) f1) (fun a1 b1 => Ok.eqn (by omega) (Ok.ltn (by omega) (Ok.gd (by omega) (Ok.ltp (by omega) (Ok.ret rfl)))))⟩) (fun q2 => ?_)
    refine Ok.lt (by omega) (fun q3 => ?_) (fun q3 => Ok.ret ⟨hl, hp, Ok.bind (isIn_t (by omega) f1) (fun a1 b1 => Ok.eqn (by omega) (Ok.ltn (by omega) (Ok.gd (by omega) (Ok.ltn (by omega) (Ok.ltn (by omega) (Ok.ret rfl))))))⟩)
    obtain ⟨n, rfl⟩ : ∃ n : Nat, x1 = (n : Int) := ⟨x1.toNat, by omega⟩
    refine Ok.bind (looked_ok hv hN hl) (fun r6 h6 => Ok.bind (work_ok hF hN h6.2.1 hC h6.2.2.1 hp) (fun r7 h7 => ?_))
    obtain ⟨h7a, h7b, h7c, h7d⟩ := h7
    have hfin : fnP F n 0 := Or.inr ⟨by omega, by omega⟩
    refine Ok.eq (by omega) (fun q4 => ?_) (fun q4 => ?_)
    · refine Ok.bind (least_ok (k := n) (f := 0) (by omega) (by omega)) (fun r10 h10 => Ok.ret ⟨Or.inr h6, Or.inr ⟨h7a, h7b, h7c, h7d⟩, ?_⟩)
      refine Ok.bind (isIn_t (by omega) f1) (fun a1 b1 => Ok.eqn (by omega) (Ok.ltn (by omega) (Ok.gd (by omega) (Ok.ltn (by omega) (Ok.ltp (by omega) (Ok.bind (mlays_ok hs hv (by omega)) (fun a7 b7 => Ok.bind (laysParts_ok s2 hF hN (by omega) b7.2.1 hC) (fun a8 b8 => Ok.eqp q4 (Ok.gd (by omega) (Ok.ret ?_))))))))))
      show r10 = a8.2 (25 * (n : Int)).toNat
      have e1 := b8.2 n 0 (by omega) (by omega)
      have e2 := h7d n 0 (by omega) (by omega)
      rw [show (25 * (n : Int)).toNat = 25 * n + 0 by omega, e1, h10, e2]
      exact ((ptS_fin hC hF (E := 100000000) (by omega) n (by omega) 0 (by omega)).1 hfin).1.symm
    · obtain ⟨k, rfl⟩ : ∃ k : Nat, x2 = (k : Int) := ⟨x2.toNat, by omega⟩
      rw [h7b]
      refine Ok.bind (start_ok2 hF hN hC (by omega) (by omega) (by omega) h7c h7d) (fun r9 h9 => Ok.ret ⟨Or.inr h6, Or.inr ⟨h7a, rfl, h7c, h7d⟩, ?_⟩)
      refine Ok.bind (isIn_t (by omega) f1) (fun a1 b1 => Ok.eqn (by omega) (Ok.ltn (by omega) (Ok.gd (by omega) (Ok.ltn (by omega) (Ok.ltp (by omega) (Ok.bind (mlays_ok hs hv (by omega)) (fun a7 b7 => Ok.bind (laysParts_ok s2 hF hN (by omega) b7.2.1 hC) (fun a8 b8 => Ok.eqn (by omega) ?_))))))))
      exact Ok.mono (mparted hF hN hC (by omega) (by omega) (by omega) b8.1 b8.2) (fun q hq => by rw [h9, hq])
  · have hM : Ok ((fX12_isIn N x1 1 8).bind fun r1 => (if iZ r1 = iZ 0 then (some (((-3 : Int), (0 : Int), me, mc, be, rc, pc))) else (if iZ x2 < iZ ((-1)) then (some (((-3), 0, me, mc, be, rc, pc))) else (gd ((0 : Int) ≤ (2 : Int) ∧ (2 : Int) < 1551) (if iZ (F : Int) < iZ x1 then (some (((-1), 0, me, mc, be, rc, pc))) else (if iZ x2 < iZ x1 then ((fX12_lays N s me mc be).bind fun r7 => ((fX12_laysParts N s r7.2.1 rc pc x1).bind fun r8 => (if iZ x2 = iZ ((-1)) then (gd ((0 : Int) ≤ 25 * x1 ∧ 25 * x1 < 225) (some ((r8.2 (25 * x1).toNat, 0, r7.1, r7.2.1, r7.2.2, r8.1, r8.2)))) else (fX12_parted_L71 N s x1 x2 (fX12_parted_j144 N s x1 x2) N 0 x1 0 r7.1 r7.2.1 r7.2.2 r8.1 r8.2)))) else (some (((-1), 0, me, mc, be, rc, pc))))))))) (fun q => -3 = q.1) := Ok.bind (isIn_f (by omega) f1) (fun a1 b1 => Ok.eqp b1 (Ok.ret rfl))
    exact Ok.lt (by omega) (fun _ => Ok.ret ⟨hl, hp, hM⟩) (fun _ => Ok.ltp (by omega) (Ok.ret ⟨hl, hp, hM⟩))
end PR
