/-! What stands behind a word. -/
section QB
theorem BitsR.val {m : Int} {c : Nat → Int} (h : BitsR m c) {t : Nat} (ht : t < 24) : c t = 0 ∨ c t = 1 := by
  obtain ⟨M, -, -, h3⟩ := h
  rw [h3 t ht]
  have : M / 2 ^ t % 2 < 2 := Nat.mod_lt _ (by decide)
  omega
def WtR (wt : Nat → Int) (sf : Int) : Prop := ∃ wn : Nat → Int, BitsR sf wn ∧ ∀ k, k < 4 → wt k = wn k
def BhP (e a : Nat) (d : Nat → Int) (F : Nat) (pl wa m5 : Int) (r : Int × Int × Int × Int × Int × Int × Int × (Nat → Int) × (Nat → Int) × (Nat → Int) × (Nat → Int) × (Nat → Int)) (q : Int × Int × Int × Int × Int × (Nat → Int)) : Prop := (r.1 = q.2.1 ∧ 1 ≤ r.1 ∧ r.1 ≤ 10 ∧ r.2.1 = q.2.2.1 ∧ ∃ a2 : Nat, r.2.2.1 = (a2 : Int) ∧ a2 ≤ e) ∨ (r.1 = 0 ∧ q.2.1 = 0 ∧ r.2.1 = pl ∧ q.2.2.1 = wa ∧ ∃ a2 W H : Nat, r.2.2.1 = (a2 : Int) ∧ q.1 = (a2 : Int) ∧ a ≤ a2 ∧ a2 ≤ e ∧ r.2.2.2.2.2.1 = (W : Int) ∧ r.2.2.2.2.2.2.1 = (H : Int) ∧ RV d r.2.2.2.2.2.2.2.2.2.1 r.2.2.2.2.2.2.2.2.1 r.2.2.2.2.2.2.2.1 r.2.2.2.2.2.2.2.2.2.2.2 W H F ∧ SR q.2.2.2.2.2 d r.2.2.2.2.2.2.2.2.2.1 r.2.2.2.2.2.2.2.2.1 r.2.2.2.2.2.2.2.1 r.2.2.2.2.2.2.2.2.2.2.2 W H F ∧ WtR r.2.2.2.2.2.2.2.2.2.2.1 q.2.2.2.1 ∧ r.2.2.2.2.2.2.2.1 5 = m5)
theorem RV.set {d cu sk se we : Nat → Int} {W H F : Nat} {k : Nat} {x : Int} (hv : RV d cu sk se we W H F) (h : 0 ≤ x ∧ x ≤ hsZ k) : RV d cu sk (uZ se k x) we W H F := by
  obtain ⟨v1, v2, v3, v4, v5, v6, v7, v8, v10⟩ := hv
  refine ⟨v1, v2, v3, v4, v5, v6, v7, ?_, v10⟩
  intro j hj
  by_cases q : j = k
  · rw [q, uZ_at]; exact h
  · rw [uZ_ne q]; exact v8 j hj
theorem RV.wt {d cu sk se we : Nat → Int} {W H F : Nat} {k : Nat} {x : Int} (hv : RV d cu sk se we W H F) (h : 1 ≤ x ∧ x ≤ 9) : RV d cu sk se (uZ we k x) W H F := by
  obtain ⟨v1, v2, v3, v4, v5, v6, v7, v8, v10⟩ := hv
  refine ⟨v1, v2, v3, v4, v5, v6, v7, v8, ?_⟩
  intro j hj
  by_cases q : j = k
  · rw [q, uZ_at]; exact h
  · rw [uZ_ne q]; exact v10 j hj
theorem RV.putc {d cu sk se we : Nat → Int} {W H F : Nat} {t : Nat} (hv : RV d cu sk se we W H F) (ht : t < F) : RV d (uZ cu t 1) sk se we W H F := by
  obtain ⟨v1, v2, v3, v4, v5, v6, v7, v8, v10⟩ := hv
  refine ⟨v1, v2, v3, v4, ?_, v6, ?_, v8, v10⟩
  · intro j hj
    by_cases q : j = t
    · rw [q, uZ_at]; omega
    · rw [uZ_ne q]; exact v5 j hj
  · intro j h1 h2
    rw [uZ_ne (by omega)]; exact v7 j h1 h2
theorem RV.puts {d cu sk se we : Nat → Int} {W H F : Nat} {t : Nat} (hv : RV d cu sk se we W H F) (ht : t < F) : RV d cu (uZ sk t 1) se we W H F := by
  obtain ⟨v1, v2, v3, v4, v5, v6, v7, v8, v10⟩ := hv
  refine ⟨v1, v2, v3, v4, v5, ?_, ?_, v8, v10⟩
  · intro j hj
    by_cases q : j = t
    · rw [q, uZ_at]; omega
    · rw [uZ_ne q]; exact v6 j hj
  · intro j h1 h2
    rw [uZ_ne (show j ≠ t by omega)]; exact v7 j h1 h2
theorem RV.size {d cu sk se we : Nat → Int} {W H F : Nat} {W' H' : Nat} (hv : RV d cu sk se we W H F) (h0 : F = 0) (h1 : 1 ≤ W' ∧ W' ≤ 8) (h2 : 1 ≤ H' ∧ H' ≤ 8) : RV d cu sk se we W' H' F := ⟨h1, h2, hv.2.2.1, fun t p ht _ => by omega, hv.2.2.2.2⟩
theorem SR.size {d cu sk se we : Nat → Int} {W H F : Nat} {s : Nat → Int} {W' H' : Nat} (hs : SR s d cu sk se we W H F) (h0 : F = 0) : SR (uZ (uZ s 0 (W' : Int)) 1 (H' : Int)) d cu sk se we W' H' F := by
  obtain ⟨h1, h2, h3, h4, h5, h6, h7, h8⟩ := hs
  exact ⟨by rw [uZ_ne (by omega), uZ_at], by rw [uZ_at], by rw [uZ_ne (by omega), uZ_ne (by omega)]; exact h3, fun k hk => by rw [uZ_ne (by omega), uZ_ne (by omega)]; exact h4 k hk, fun k hk => by rw [uZ_ne (by omega), uZ_ne (by omega)]; exact h5 k hk, by rw [uZ_ne (by omega), uZ_ne (by omega)]; exact h6, by rw [uZ_ne (by omega), uZ_ne (by omega)]; exact h7, fun u q hu hq => by omega⟩
/-! size -/
theorem size_j {N e a : Nat} {d cu sk se we : Nat → Int} {W H F : Nat} {tx ty s wt : Nat → Int} {pl nb na wa sf ra : Int} (hT : TpR e tx ty) (he : e ≤ 900) (ha : a ≤ e) (hN : 1000 < N) (hv : RV d cu sk se we W H F) (hs : SR s d cu sk se we W H F) (hw : WtR wt sf) (h0 : F = 0) : Ok (fX7_readNumbers N 0 e tx F 0 pl a nb na W H se sk cu wt we) (fun r => Ok (fX12_behind N e ty a 0 wa sf ra s 0) (fun q => BhP e a d F pl wa (se 5) r q)) := by
  unfold fX7_readNumbers fX7_readSize
  rw [if_pos rfl]
  have hb1 := nuC_b tx e a 1 8
  have hE := nuE_le (tx := tx) ha
  refine Ok.bind (P := fun r17 => Ok (fX12_behind N e ty a 0 wa sf ra s 0) (fun q => BhP e a d F pl wa (se 5) (r17.1, r17.2.1, r17.2.2.1, r17.2.2.2.1, r17.2.2.2.2.1, r17.2.2.2.2.2.1, r17.2.2.2.2.2.2, se, sk, cu, wt, we) q)) ?_ (fun r17 h17 => Ok.ret h17)
  refine Ok.bind (readNumber_ok hT he ha hN (by omega) (by omega)) (fun r1 h1 => ?_)
  unfold fX12_behind
  rcases h1 with ⟨c0, h1⟩ | ⟨c0, h1⟩
  · subst h1
    have hv1 := (nuC_0 c0).1
    have hb2 := nuC_b tx e (nuE tx e a) 1 8
    have hE2 := nuE_le (tx := tx) hE.1
    refine Ok.eqn (by show (1 : Int) ≠ 0 ∧ (-2147483648 ≤ (1 : Int) ∧ (1 : Int) < 2147483648) ∧ -2147483648 ≤ (0 : Int) ∧ (0 : Int) < 2147483648; omega) ?_
    refine Ok.bind (readNumber_ok hT he hE.1 hN (by omega) (by omega)) (fun r3 h3 => ?_)
    obtain ⟨W', hW'⟩ : ∃ W' : Nat, nuV tx e a = (W' : Int) := ⟨(nuV tx e a).toNat, by omega⟩
    rcases h3 with ⟨c1, h3⟩ | ⟨c1, h3⟩
    · subst h3
      have hv2 := (nuC_0 c1).1
      obtain ⟨H', hH'⟩ : ∃ H' : Nat, nuV tx e (nuE tx e a) = (H' : Int) := ⟨(nuV tx e (nuE tx e a)).toNat, by omega⟩
      refine Ok.eqn (by show (1 : Int) ≠ 0 ∧ (-2147483648 ≤ (1 : Int) ∧ (1 : Int) < 2147483648) ∧ -2147483648 ≤ (0 : Int) ∧ (0 : Int) < 2147483648; omega) (Ok.ret ?_)
      refine Ok.eqp rfl (Ok.bind (numeral_ok hT he ha hN (by omega) (by omega)) (fun q2 g2 => Ok.gd (by omega) ?_))
      rcases g2 with ⟨-, g2⟩ | ⟨g0, -⟩
      · subst g2
        refine Ok.bind (numeral_ok hT he hE.1 hN (by omega) (by omega)) (fun q4 g4 => Ok.gd (by omega) (Ok.ret ?_))
        rcases g4 with ⟨-, g4⟩ | ⟨g0, -⟩
        · subst g4
          refine Or.inr ⟨rfl, rfl, rfl, rfl, nuE tx e (nuE tx e a), W', H', rfl, rfl, by omega, by omega, hW', hH', hv.size h0 (by omega) (by omega), ?_, hw, rfl⟩
          show SR (uZ (uZ s ((0 : Int)).toNat (nuV tx e a)) ((1 : Int)).toNat (nuV tx e (nuE tx e a))) d cu sk se we W' H' F
          rw [(show ((0 : Int)).toNat = 0 from rfl), (show ((1 : Int)).toNat = 1 from rfl), hW', hH']
          exact hs.size h0
        · exact absurd c1 g0
      · exact absurd c0 g0
    · subst h3
      refine Ok.eqp rfl (Ok.ret ?_)
      refine Ok.eqp rfl (Ok.bind (numeral_ok hT he ha hN (by omega) (by omega)) (fun q2 g2 => Ok.gd (by omega) ?_))
      rcases g2 with ⟨-, g2⟩ | ⟨g0, -⟩
      · subst g2
        refine Ok.bind (numeral_ok hT he hE.1 hN (by omega) (by omega)) (fun q4 g4 => Ok.gd (by omega) (Ok.ret ?_))
        rcases g4 with ⟨g0, -⟩ | ⟨-, -, -, g5, g6⟩
        · exact absurd g0 c1
        · exact Or.inl ⟨g5.symm, by show 1 ≤ nuC tx e (nuE tx e a) 1 8; omega, by show nuC tx e (nuE tx e a) 1 8 ≤ 10; omega, g6.symm, nuE tx e (nuE tx e a), rfl, hE2.1⟩
      · exact absurd c0 g0
  · subst h1
    refine Ok.eqp rfl (Ok.ret ?_)
    refine Ok.eqp rfl (Ok.bind (numeral_ok hT he ha hN (by omega) (by omega)) (fun q2 g2 => Ok.gd (by omega) ?_))
    rcases g2 with ⟨g0, -⟩ | ⟨-, -, -, g5, g6⟩
    · exact absurd g0 c0
    · refine Ok.bind (numeral_w (by rw [g5]; omega)) (fun q4 g4 => Ok.gd (by omega) (Ok.ret ?_))
      subst g4
      exact Or.inl ⟨g5.symm, by show 1 ≤ nuC tx e a 1 8; omega, by show nuC tx e a 1 8 ≤ 10; omega, g6.symm, nuE tx e a, rfl, hE.1⟩
/-! a setting -/
theorem num_set {N e a k z : Nat} {d cu sk se we : Nat → Int} {W H F : Nat} {tx ty s wt : Nat → Int} {pl nb na wa sf ra hi : Int} (hT : TpR e tx ty) (he : e ≤ 900) (ha : a ≤ e) (hN : 1000 < N) (hv : RV d cu sk se we W H F) (hs : SR s d cu sk se we W H F) (hw : WtR wt sf) (hk : k < 5) (hh : hi = hsZ k) (hhb : 0 ≤ hi ∧ hi ≤ 999) : Ok ((fX7_readNumber N e tx 0 pl a nb na 0 hi).bind fun r9 => (if iZ r9.1 = iZ 0 then (some ((r9.2.1, r9.2.2.1, r9.2.2.2.1, r9.2.2.2.2.1, r9.2.2.2.2.2, (W : Int), (H : Int), se, sk, cu, wt, we))) else (gd ((0 : Int) ≤ (k : Int) ∧ (k : Int) < 6) (some ((r9.2.1, r9.2.2.1, r9.2.2.2.1, r9.2.2.2.2.1, r9.2.2.2.2.2, (W : Int), (H : Int), uZ se ((k : Int)).toNat r9.2.2.2.2.1, sk, cu, wt, we)))))) (fun r => Ok ((fX12_numeral N e ty a 0 wa ra 0 hi).bind fun r14 => (gd ((0 : Int) ≤ 3 + (k : Int) ∧ 3 + (k : Int) < 1551) (some ((r14.2.1, r14.2.2.1, r14.2.2.2.1, sf, r14.2.2.2.2, uZ s (3 + (k : Int)).toNat r14.1))))) (fun q => BhP e a d F pl wa (se 5) r q)) := by
  have hb1 := nuC_b tx e a 0 hi
  have hE := nuE_le (tx := tx) ha
  refine Ok.bind (readNumber_ok hT he ha hN (by omega) (by omega)) (fun r1 h1 => ?_)
  rcases h1 with ⟨c0, h1⟩ | ⟨c0, h1⟩
  · subst h1
    have hv1 := (nuC_0 c0).1
    refine Ok.eqn (by show (1 : Int) ≠ 0 ∧ (-2147483648 ≤ (1 : Int) ∧ (1 : Int) < 2147483648) ∧ -2147483648 ≤ (0 : Int) ∧ (0 : Int) < 2147483648; omega) (Ok.gd (by omega) (Ok.ret ?_))
    refine Ok.bind (numeral_ok hT he ha hN (by omega) (by omega)) (fun q2 g2 => Ok.gd (by omega) (Ok.ret ?_))
    rcases g2 with ⟨-, g2⟩ | ⟨g0, -⟩
    · subst g2
      rw [Int.toNat_natCast, show (3 + (k : Int)).toNat = 3 + k by omega]
      refine Or.inr ⟨rfl, rfl, rfl, rfl, nuE tx e a, W, H, rfl, rfl, by omega, by omega, rfl, rfl, hv.set (by rw [← hh]; exact hv1), hs.set (by omega), hw, ?_⟩
      show uZ se k (nuV tx e a) 5 = se 5
      exact uZ_ne (by omega)
    · exact absurd c0 g0
  · subst h1
    refine Ok.eqp rfl (Ok.ret ?_)
    refine Ok.bind (numeral_ok hT he ha hN (by omega) (by omega)) (fun q2 g2 => Ok.gd (by omega) (Ok.ret ?_))
    rcases g2 with ⟨g0, -⟩ | ⟨-, -, -, g5, g6⟩
    · exact absurd g0 c0
    · exact Or.inl ⟨g5.symm, by show 1 ≤ nuC tx e a 0 hi; omega, by show nuC tx e a 0 hi ≤ 10; omega, g6.symm, nuE tx e a, rfl, hE.1⟩
end QB
