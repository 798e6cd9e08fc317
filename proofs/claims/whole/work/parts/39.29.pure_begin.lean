/-! A new film, in the reader and in the reference. -/
section QA
def RV (d cu sk se we : Nat → Int) (W H F : Nat) : Prop := (1 ≤ W ∧ W ≤ 8) ∧ (1 ≤ H ∧ H ≤ 8) ∧ F ≤ 24 ∧ (∀ t p, t < F → p < W * H → 0 ≤ d (64 * t + p) ∧ d (64 * t + p) ≤ 15) ∧ (∀ t, t < 24 → cu t = 0 ∨ cu t = 1) ∧ (∀ t, t < 24 → sk t = 0 ∨ sk t = 1) ∧ (∀ t, F ≤ t → t < 24 → cu t = 0 ∧ sk t = 0) ∧ (∀ k, k < 6 → 0 ≤ se k ∧ se k ≤ hsZ k) ∧ (∀ k, k < 4 → 1 ≤ we k ∧ we k ≤ 9)
theorem RV.fv {d cu sk se we : Nat → Int} {W H F : Nat} (h : RV d cu sk se we W H F) (h2 : se 1 ≤ se 2) : FV d cu sk se we W H F := ⟨h.1, h.2.1, h.2.2.1, h.2.2.2.1, h.2.2.2.2.1, h.2.2.2.2.2.1, h.2.2.2.2.2.2.1, h.2.2.2.2.2.2.2.1, h2, h.2.2.2.2.2.2.2.2⟩
theorem clear_ok {N : Nat} {w h f : Int} {cu sk we se : Nat → Int} (hN : 400 < N) : Ok (fX2_clear N w h f cu sk we se) (fun r => r.1 = 4 ∧ r.2.1 = 4 ∧ r.2.2.1 = 0 ∧ (∀ t, t < 24 → r.2.2.2.1 t = 0) ∧ (∀ t, t < 24 → r.2.2.2.2.1 t = 0) ∧ (∀ k, k < 4 → r.2.2.2.2.2.1 k = 1) ∧ ∀ k, k < 6 → r.2.2.2.2.2.2 k = usZ k) := by
  unfold fX2_clear
  refine Ok.bind (fill_ok (n := 24) (by omega) (by omega)) (fun r1 h1 => Ok.bind (fill_ok (n := 24) (by omega) (by omega)) (fun r2 h2 => Ok.bind (fill_ok (n := 4) (by omega) (by omega)) (fun r3 h3 => Ok.gd (by omega) (Ok.ret ⟨rfl, rfl, rfl, ?_, ?_, ?_, ?_⟩))))
  · intro t ht
    show r1 t = 0
    rw [h1, if_pos ht]
  · intro t ht
    show r2 t = 0
    rw [h2, if_pos ht]
  · intro t ht
    show r3 t = 1
    rw [h3, if_pos ht]
  · intro k hk
    exact cpZ_0 (n := 6) hk
theorem plain_ok {N : Nat} {s : Nat → Int} (hN : 12000 < N) : Ok (fX12_plain N s) (fun g => g 0 = 4 ∧ g 1 = 4 ∧ g 2 = 0 ∧ (∀ k, k < 6 → g (3 + k) = usZ k) ∧ (∀ k, k < 4 → g (9 + k) = 1) ∧ g 13 = 0 ∧ g 14 = 0) := by
  unfold fX12_plain
  refine Ok.loop (fun m i g => fX12_plain_L2 N (fX12_plain_j22 N) m (i : Int) g) 1551 (fun i g => ∀ k, k < i → g k = 0) _ ?_ ?_ N 0 s (by omega) (by omega) (fun k hk => by omega)
  · intro m i g hi hI ih
    show Ok (fX12_plain_b2 N _ _ (i : Int) g) _
    unfold fX12_plain_b2
    rw [Int.toNat_natCast]
    refine Ok.ltp (by omega) (Ok.gd (by omega) (ih _ ?_))
    intro k hk
    by_cases z : k = i
    · rw [z, uZ_at]
    · rw [uZ_ne z]; exact hI k (by omega)
  · intro m g hI
    show Ok (fX12_plain_b2 N _ _ ((1551 : Nat) : Int) g) _
    unfold fX12_plain_b2 fX12_plain_j22
    rw [(show ((0 : Int)).toNat = 0 from rfl), (show ((1 : Int)).toNat = 1 from rfl), (show ((3 : Int)).toNat = 3 from rfl), (show ((5 : Int)).toNat = 5 from rfl), (show ((6 : Int)).toNat = 6 from rfl)]
    refine Ok.ltn (by omega) (Ok.gd (by omega) (Ok.gd (by omega) (Ok.gd (by omega) (Ok.gd (by omega) (Ok.gd (by omega) ?_)))))
    obtain ⟨G, hG⟩ : ∃ G : Nat → Int, G = uZ (uZ (uZ (uZ (uZ g 0 4) 1 4) 3 1) 5 15) 6 15 := ⟨_, rfl⟩
    rw [← hG]
    have g0 : G 0 = 4 := by rw [hG, uZ_ne (by omega), uZ_ne (by omega), uZ_ne (by omega), uZ_ne (by omega), uZ_at]
    have g1 : G 1 = 4 := by rw [hG, uZ_ne (by omega), uZ_ne (by omega), uZ_ne (by omega), uZ_at]
    have g3 : G 3 = 1 := by rw [hG, uZ_ne (by omega), uZ_ne (by omega), uZ_at]
    have g5 : G 5 = 15 := by rw [hG, uZ_ne (by omega), uZ_at]
    have g6 : G 6 = 15 := by rw [hG, uZ_at]
    have gz : ∀ k, k < 1551 → k ≠ 0 → k ≠ 1 → k ≠ 3 → k ≠ 5 → k ≠ 6 → G k = 0 := by
      intro k hk n0 n1 n3 n5 n6
      rw [hG, uZ_ne n6, uZ_ne n5, uZ_ne n3, uZ_ne n1, uZ_ne n0]; exact hI k hk
    refine Ok.loop (fun m i x => fX12_plain_L62 N (fX12_plain_j83 N) m (i : Int) x) 4 (fun i x => (∀ k, (k < 9 ∨ 13 ≤ k) → x k = G k) ∧ ∀ k, k < i → x (9 + k) = 1) _ ?_ ?_ N 0 G (by omega) (by omega) ⟨fun k _ => rfl, fun k hk => by omega⟩
    · intro m2 i x hi hI2 ih2
      show Ok (fX12_plain_b62 N _ _ (i : Int) x) _
      unfold fX12_plain_b62
      rw [show (9 + (i : Int)).toNat = 9 + i by omega]
      refine Ok.ltp (by omega) (Ok.gd (by omega) (ih2 _ ⟨?_, ?_⟩))
      · intro k hk; rw [uZ_ne (by omega)]; exact hI2.1 k hk
      · intro k hk
        by_cases z : k = i
        · rw [z, uZ_at]
        · rw [uZ_ne (by omega)]; exact hI2.2 k (by omega)
    · intro m2 x hI2
      show Ok (fX12_plain_b62 N _ _ ((4 : Nat) : Int) x) _
      unfold fX12_plain_b62 fX12_plain_j83
      refine Ok.ltn (by omega) (Ok.ret ⟨?_, ?_, ?_, ?_, ?_, ?_, ?_⟩)
      · rw [hI2.1 0 (by omega)]; exact g0
      · rw [hI2.1 1 (by omega)]; exact g1
      · rw [hI2.1 2 (by omega)]; exact gz 2 (by omega) (by omega) (by omega) (by omega) (by omega) (by omega)
      · intro k hk
        rw [hI2.1 (3 + k) (by omega)]
        have h6 : k = 0 ∨ k = 1 ∨ k = 2 ∨ k = 3 ∨ k = 4 ∨ k = 5 := by omega
        rcases h6 with rfl | rfl | rfl | rfl | rfl | rfl
        · exact g3
        · exact gz 4 (by omega) (by omega) (by omega) (by omega) (by omega) (by omega)
        · exact g5
        · exact g6
        · exact gz 7 (by omega) (by omega) (by omega) (by omega) (by omega) (by omega)
        · exact gz 8 (by omega) (by omega) (by omega) (by omega) (by omega) (by omega)
      · exact hI2.2
      · rw [hI2.1 13 (by omega)]; exact gz 13 (by omega) (by omega) (by omega) (by omega) (by omega) (by omega)
      · rw [hI2.1 14 (by omega)]; exact gz 14 (by omega) (by omega) (by omega) (by omega) (by omega) (by omega)
theorem bits_0 {c : Nat → Int} (h : ∀ t, t < 24 → c t = 0) : BitsR 0 c := ⟨0, rfl, by omega, fun t ht => by rw [h t ht, Nat.zero_div]; rfl⟩
theorem begin_ok {N n : Nat} {ln fa pl en at0 w h f : Int} {cu sk we se to wt : Nat → Int} (hN : 400 < N) : Ok (fX7_begin N ln fa pl en at0 w h f cu sk we se to wt n) (fun r => r.1 = 0 ∧ r.2.1 = 0 ∧ r.2.2.1 = -1 ∧ r.2.2.2.1 = (n : Int) ∧ r.2.2.2.2.1 = 0 ∧ r.2.2.2.2.2.1 = 4 ∧ r.2.2.2.2.2.2.1 = 4 ∧ r.2.2.2.2.2.2.2.1 = 0 ∧ (∀ t, t < 24 → r.2.2.2.2.2.2.2.2.1 t = 0) ∧ (∀ t, t < 24 → r.2.2.2.2.2.2.2.2.2.1 t = 0) ∧ (∀ k, k < 4 → r.2.2.2.2.2.2.2.2.2.2.1 k = 1) ∧ (∀ k, k < 6 → r.2.2.2.2.2.2.2.2.2.2.2.1 k = usZ k) ∧ (∀ k, k < 7 → r.2.2.2.2.2.2.2.2.2.2.2.2.1 k = 0) ∧ ∀ k, k < 4 → r.2.2.2.2.2.2.2.2.2.2.2.2.2 k = 0) := by
  unfold fX7_begin
  refine Ok.bind (clear_ok hN) (fun r1 h1 => ?_)
  obtain ⟨c1, c2, c3, c4, c5, c6, c7⟩ := h1
  refine Ok.loop (fun m i x => fX7_begin_L34 N n (fX7_begin_j53 N n) m (i : Int) 0 0 (-1) n 0 r1.1 r1.2.1 r1.2.2.1 r1.2.2.2.1 r1.2.2.2.2.1 r1.2.2.2.2.2.1 r1.2.2.2.2.2.2 x wt) 7 (fun i x => ∀ k, k < i → x k = 0) _ ?_ ?_ N 0 to (by omega) (by omega) (fun k hk => by omega)
  · intro m i x hi hI ih
    show Ok (fX7_begin_b34 N n _ _ (i : Int) 0 0 (-1) n 0 r1.1 r1.2.1 r1.2.2.1 r1.2.2.2.1 r1.2.2.2.2.1 r1.2.2.2.2.2.1 r1.2.2.2.2.2.2 x wt) _
    unfold fX7_begin_b34
    rw [Int.toNat_natCast, nZ_0]
    refine Ok.ltn (by omega) (Ok.gd (by omega) (ih _ ?_))
    intro k hk
    by_cases z : k = i
    · rw [z, uZ_at]
    · rw [uZ_ne z]; exact hI k (by omega)
  · intro m x hI
    show Ok (fX7_begin_b34 N n _ _ ((7 : Nat) : Int) 0 0 (-1) n 0 r1.1 r1.2.1 r1.2.2.1 r1.2.2.2.1 r1.2.2.2.2.1 r1.2.2.2.2.2.1 r1.2.2.2.2.2.2 x wt) _
    unfold fX7_begin_b34 fX7_begin_j53
    refine Ok.ltp (by omega) ?_
    refine Ok.loop (fun m i y => fX7_begin_L55 N n (fX7_begin_j73 N n) m (i : Int) 0 0 (-1) n 0 r1.1 r1.2.1 r1.2.2.1 r1.2.2.2.1 r1.2.2.2.2.1 r1.2.2.2.2.2.1 r1.2.2.2.2.2.2 x y) 4 (fun i y => ∀ k, k < i → y k = 0) _ ?_ ?_ N 0 wt (by omega) (by omega) (fun k hk => by omega)
    · intro m2 i y hi hI2 ih2
      show Ok (fX7_begin_b55 N n _ _ (i : Int) 0 0 (-1) n 0 r1.1 r1.2.1 r1.2.2.1 r1.2.2.2.1 r1.2.2.2.2.1 r1.2.2.2.2.2.1 r1.2.2.2.2.2.2 x y) _
      unfold fX7_begin_b55
      rw [Int.toNat_natCast, nZ_0]
      refine Ok.ltp (by omega) (Ok.gd (by omega) (ih2 _ ?_))
      intro k hk
      by_cases z : k = i
      · rw [z, uZ_at]
      · rw [uZ_ne z]; exact hI2 k (by omega)
    · intro m2 y hI2
      show Ok (fX7_begin_b55 N n _ _ ((4 : Nat) : Int) 0 0 (-1) n 0 r1.1 r1.2.1 r1.2.2.1 r1.2.2.2.1 r1.2.2.2.2.1 r1.2.2.2.2.2.1 r1.2.2.2.2.2.2 x y) _
      unfold fX7_begin_b55 fX7_begin_j73
      exact Ok.ltn (by omega) (Ok.ret ⟨rfl, rfl, rfl, rfl, rfl, c1, c2, c3, c4, c5, c6, c7, hI, hI2⟩)
end QA
