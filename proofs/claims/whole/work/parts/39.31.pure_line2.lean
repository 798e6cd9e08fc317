/-! What stands behind a word, second part. -/
section QC
/-! weights -/
theorem wread_j {N e a : Nat} {d cu sk se we : Nat → Int} {W H F : Nat} {tx ty s wt : Nat → Int} {pl nb na wa sf ra : Int} (hT : TpR e tx ty) (he : e ≤ 900) (ha : a ≤ e) (hN : 1000 < N) (hv : RV d cu sk se we W H F) (hs : SR s d cu sk se we W H F) (hw : WtR wt sf) : Ok (fX7_readWeight N e tx 0 pl a nb na wt we) (fun r => Ok (fX12_weightRead N e ty a 0 wa sf ra s) (fun q => BhP e a d F pl wa (se 5) (r.1, r.2.1, r.2.2.1, r.2.2.2.1, r.2.2.2.2.1, (W : Int), (H : Int), se, sk, cu, r.2.2.2.2.2.1, r.2.2.2.2.2.2) q)) := by
  unfold fX7_readWeight fX12_weightRead fX7_fail
  have hb1 := nuC_b tx e a 0 3
  have hE := nuE_le (tx := tx) ha
  obtain ⟨wn, hwn, hwk⟩ := hw
  refine Ok.bind (readNumber_ok hT he ha hN (by omega) (by omega)) (fun r1 h1 => ?_)
  rcases h1 with ⟨c0, h1⟩ | ⟨c0, h1⟩
  · subst h1
    have hv1 := (nuC_0 c0).1
    obtain ⟨k, hk⟩ : ∃ k : Nat, nuV tx e a = (k : Int) := ⟨(nuV tx e a).toNat, by omega⟩
    have hk4 : k < 4 := by omega
    have hwv := hwn.val (t := k) (by omega)
    have hbit : aZ (rZ sf (k : Int)) 1 = wn k := bits_ok hwn (by omega)
    refine Ok.eqn (by show (1 : Int) ≠ 0 ∧ (-2147483648 ≤ (1 : Int) ∧ (1 : Int) < 2147483648) ∧ -2147483648 ≤ (0 : Int) ∧ (0 : Int) < 2147483648; omega) ?_
    refine Ok.gd (by show (0 : Int) ≤ nuV tx e a ∧ nuV tx e a < 4; omega) ?_
    have ek : (nuV tx e a).toNat = k := by omega
    show Ok (if iZ (wt (nuV tx e a).toNat) = iZ 0 then _ else _) _
    rw [ek, hwk k hk4]
    have mhead : ∀ {P : Int × Int × Int × Int × Int × (Nat → Int) → Prop} (kk : Int × Int × Int × Int × Int → Option (Int × Int × Int × Int × Int × (Nat → Int))), Ok (kk ((k : Int), (nuE tx e a : Int), 0, wa, (bkS tx e a : Int))) P → Ok ((fX12_numeral N e ty a 0 wa ra 0 3).bind kk) P := by
      intro P kk hkk
      refine Ok.bind (numeral_ok hT he ha hN (by omega) (by omega)) (fun q1 g1 => ?_)
      rcases g1 with ⟨-, g1⟩ | ⟨g0, -⟩
      · subst g1; rw [hk]; exact hkk
      · exact absurd c0 g0
    rcases hwv with w0 | w1
    · refine Ok.eqp w0 ?_
      have hb2 := nuC_b tx e (nuE tx e a) 1 9
      have hE2 := nuE_le (tx := tx) hE.1
      refine Ok.bind (readNumber_ok hT he hE.1 hN (by omega) (by omega)) (fun r5 h5 => ?_)
      rcases h5 with ⟨c1, h5⟩ | ⟨c1, h5⟩
      · subst h5
        have hv2 := (nuC_0 c1).1
        refine Ok.eqn (by show (1 : Int) ≠ 0 ∧ (-2147483648 ≤ (1 : Int) ∧ (1 : Int) < 2147483648) ∧ -2147483648 ≤ (0 : Int) ∧ (0 : Int) < 2147483648; omega) ?_
        refine Ok.gd (by show (0 : Int) ≤ nuV tx e a ∧ nuV tx e a < 4; omega) (Ok.gd (by show (0 : Int) ≤ nuV tx e a ∧ nuV tx e a < 4; omega) (Ok.ret ?_))
        refine mhead _ ?_
        refine Ok.eqp rfl ?_
        show Ok (if iZ (aZ (rZ sf (k : Int)) 1) = iZ 1 then _ else _) _
        rw [hbit]
        refine Ok.eqn (by omega) ?_
        unfold fX12_weightRead_j35
        refine Ok.bind (numeral_ok hT he hE.1 hN (by omega) (by omega)) (fun q3 g3 => ?_)
        rcases g3 with ⟨-, g3⟩ | ⟨g0, -⟩
        · subst g3
          refine Ok.eqp rfl (Ok.gd (by show (0 : Int) ≤ 9 + (k : Int) ∧ 9 + (k : Int) < 1551; omega) (Ok.ret ?_))
          refine Or.inr ⟨rfl, rfl, rfl, rfl, nuE tx e (nuE tx e a), W, H, rfl, rfl, by omega, by omega, rfl, rfl, ?_, ?_, ?_, rfl⟩
          · show RV d cu sk se (uZ we k (nuV tx e (nuE tx e a))) W H F
            exact hv.wt hv2
          · show SR (uZ s (9 + (k : Int)).toNat (nuV tx e (nuE tx e a))) d cu sk se (uZ we k (nuV tx e (nuE tx e a))) W H F
            rw [show (9 + (k : Int)).toNat = 9 + k by omega]
            exact hs.wt hk4
          · show WtR (uZ wt k (nZ 1)) (oZ sf (lZ 1 (k : Int)))
            rw [nZ_1]
            refine ⟨uZ wn k 1, hwn.put (by omega), ?_⟩
            intro j hj
            by_cases z : j = k
            · rw [z, uZ_at, uZ_at]
            · rw [uZ_ne z, uZ_ne z]; exact hwk j hj
        · exact absurd c1 g0
      · subst h5
        refine Ok.eqp rfl (Ok.ret ?_)
        refine mhead _ ?_
        refine Ok.eqp rfl ?_
        show Ok (if iZ (aZ (rZ sf (k : Int)) 1) = iZ 1 then _ else _) _
        rw [hbit]
        refine Ok.eqn (by omega) ?_
        unfold fX12_weightRead_j35
        refine Ok.bind (numeral_ok hT he hE.1 hN (by omega) (by omega)) (fun q3 g3 => ?_)
        rcases g3 with ⟨g0, -⟩ | ⟨-, -, -, g5, g6⟩
        · exact absurd g0 c1
        · refine Ok.eqn (by rw [g5]; omega) (Ok.ret (Or.inl ⟨g5.symm, by show 1 ≤ nuC tx e (nuE tx e a) 1 9; omega, by show nuC tx e (nuE tx e a) 1 9 ≤ 10; omega, g6.symm, nuE tx e (nuE tx e a), rfl, hE2.1⟩))
    · refine Ok.eqn (by omega) (Ok.bind (Ok.ret (P := fun r => r = ((1 : Int), (bkS tx e a : Int))) rfl) (fun r9 h9 => ?_))
      subst h9
      refine Ok.ret (mhead _ ?_)
      refine Ok.eqp rfl ?_
      show Ok (if iZ (aZ (rZ sf (k : Int)) 1) = iZ 1 then _ else _) _
      rw [hbit]
      refine Ok.eqp w1 (Ok.bind fails_0 (fun q7 g7 => ?_))
      subst g7
      unfold fX12_weightRead_j35
      refine Ok.bind (numeral_w (by show (1 : Int) ≠ 0 ∧ -100 ≤ (1 : Int) ∧ (1 : Int) ≤ 100; omega)) (fun q3 g3 => ?_)
      subst g3
      refine Ok.eqn (by show (1 : Int) ≠ 0 ∧ (-2147483648 ≤ (1 : Int) ∧ (1 : Int) < 2147483648) ∧ -2147483648 ≤ (0 : Int) ∧ (0 : Int) < 2147483648; omega) (Ok.ret (Or.inl ⟨rfl, by show (1 : Int) ≤ 1; omega, by show (1 : Int) ≤ 10; omega, rfl, nuE tx e a, rfl, hE.1⟩))
  · subst h1
    refine Ok.eqp rfl (Ok.ret ?_)
    refine Ok.bind (numeral_ok hT he ha hN (by omega) (by omega)) (fun q1 g1 => ?_)
    rcases g1 with ⟨g0, -⟩ | ⟨-, -, -, g5, g6⟩
    · exact absurd g0 c0
    · refine Ok.eqn (by rw [g5]; omega) ?_
      unfold fX12_weightRead_j35
      refine Ok.bind (numeral_w (by rw [g5]; omega)) (fun q3 g3 => ?_)
      subst g3
      refine Ok.eqn (by show q1.2.2.1 ≠ 0 ∧ (-2147483648 ≤ q1.2.2.1 ∧ q1.2.2.1 < 2147483648) ∧ -2147483648 ≤ (0 : Int) ∧ (0 : Int) < 2147483648; rw [g5]; omega) (Ok.ret (Or.inl ⟨g5.symm, by show 1 ≤ nuC tx e a 0 3; omega, by show nuC tx e a 0 3 ≤ 10; omega, g6.symm, nuE tx e a, rfl, hE.1⟩))
/-! marks -/
def MkP (e a F : Nat) (mk : Nat → Int) (s : Nat → Int) (ix : Nat) (pl wa : Int) (r : Int × Int × Int × Int × Int × (Nat → Int)) (q : Int × Int × Int × Int × (Nat → Int)) : Prop := (r.1 = q.2.1 ∧ 1 ≤ r.1 ∧ r.1 ≤ 10 ∧ r.2.1 = q.2.2.1 ∧ ∃ a2 : Nat, r.2.2.1 = (a2 : Int) ∧ a2 ≤ e) ∨ (r.1 = 0 ∧ q.2.1 = 0 ∧ r.2.1 = pl ∧ q.2.2.1 = wa ∧ ∃ a2 k : Nat, r.2.2.1 = (a2 : Int) ∧ q.1 = (a2 : Int) ∧ a ≤ a2 ∧ a2 ≤ e ∧ k < F ∧ r.2.2.2.2.2 = uZ mk k 1 ∧ q.2.2.2.2 = uZ s ix (oZ (s ix) (lZ 1 (k : Int))))
theorem mark_j {N e a F ix : Nat} {tx ty s mk : Nat → Int} {pl nb na wa ra lo : Int} (hT : TpR e tx ty) (he : e ≤ 900) (ha : a ≤ e) (hN : 1000 < N) (hF : F ≤ 24) (s2 : s 2 = (F : Int)) (hix : ix < 1551) (hm : BitsR (s ix) mk) (hlo : 0 ≤ lo ∧ lo ≤ 1) : Ok (fX7_readMark N e F tx 0 pl a nb na mk lo) (fun r => Ok (fX12_bitRead_j12 N e ty ix lo a 0 wa ra s) (fun q => MkP e a F mk s ix pl wa r q)) := by
  unfold fX7_readMark fX12_bitRead_j12 fX7_fail
  have hb1 := nuC_b tx e a lo ((F : Int) - 1)
  have hE := nuE_le (tx := tx) ha
  refine Ok.bind (readNumber_ok hT he ha hN (by omega) (by omega)) (fun r1 h1 => ?_)
  rw [(show ((2 : Int)).toNat = 2 from rfl), s2, Int.toNat_natCast]
  rcases h1 with ⟨c0, h1⟩ | ⟨c0, h1⟩
  · subst h1
    have hv1 := (nuC_0 c0).1
    obtain ⟨k, hk⟩ : ∃ k : Nat, nuV tx e a = (k : Int) := ⟨(nuV tx e a).toNat, by omega⟩
    have hkF : k < F := by omega
    have ek : (nuV tx e a).toNat = k := by omega
    have hmv := hm.val (t := k) (by omega)
    have hbit : aZ (rZ (s ix) (k : Int)) 1 = mk k := bits_ok hm (by omega)
    refine Ok.eqn (by show (1 : Int) ≠ 0 ∧ (-2147483648 ≤ (1 : Int) ∧ (1 : Int) < 2147483648) ∧ -2147483648 ≤ (0 : Int) ∧ (0 : Int) < 2147483648; omega) ?_
    refine Ok.gd (by show (0 : Int) ≤ nuV tx e a ∧ nuV tx e a < 24; omega) ?_
    show Ok (if iZ (mk (nuV tx e a).toNat) = iZ 1 then _ else _) _
    rw [ek]
    have mhead : ∀ {P : Int × Int × Int × Int × (Nat → Int) → Prop} (kk : Int × Int × Int × Int × Int → Option (Int × Int × Int × Int × (Nat → Int))), Ok (kk ((k : Int), (nuE tx e a : Int), 0, wa, (bkS tx e a : Int))) P → Ok ((fX12_numeral N e ty a 0 wa ra lo ((F : Int) - 1)).bind kk) P := by
      intro P kk hkk
      refine Ok.bind (numeral_ok hT he ha hN (by omega) (by omega)) (fun q1 g1 => ?_)
      rcases g1 with ⟨-, g1⟩ | ⟨g0, -⟩
      · subst g1; rw [hk]; exact hkk
      · exact absurd c0 g0
    rcases hmv with w0 | w1
    · refine Ok.eqn (by omega) (Ok.gd (by show (0 : Int) ≤ nuV tx e a ∧ nuV tx e a < 24; omega) (Ok.ret (Ok.gd (by omega) (mhead _ ?_))))
      refine Ok.eqp rfl (Ok.gd (by omega) ?_)
      show Ok (if iZ (aZ (rZ (s ix) (k : Int)) 1) = iZ 1 then _ else _) _
      rw [hbit]
      refine Ok.eqn (by omega) ?_
      unfold fX12_bitRead_j54
      rw [Int.toNat_natCast]
      refine Ok.eqp rfl (Ok.gd (by omega) (Ok.gd (by omega) (Ok.ret ?_)))
      refine Or.inr ⟨rfl, rfl, rfl, rfl, nuE tx e a, k, rfl, rfl, by omega, by omega, hkF, ?_, rfl⟩
      rfl
    · refine Ok.eqp w1 (Ok.bind (Ok.ret (P := fun r => r = ((1 : Int), (bkS tx e a : Int))) rfl) (fun r6 h6 => ?_))
      subst h6
      refine Ok.ret (Ok.gd (by omega) (mhead _ ?_))
      refine Ok.eqp rfl (Ok.gd (by omega) ?_)
      show Ok (if iZ (aZ (rZ (s ix) (k : Int)) 1) = iZ 1 then _ else _) _
      rw [hbit]
      refine Ok.eqp w1 (Ok.bind fails_0 (fun q7 g7 => ?_))
      subst g7
      unfold fX12_bitRead_j54
      refine Ok.eqn (by show (1 : Int) ≠ 0 ∧ (-2147483648 ≤ (1 : Int) ∧ (1 : Int) < 2147483648) ∧ -2147483648 ≤ (0 : Int) ∧ (0 : Int) < 2147483648; omega) (Ok.ret (Or.inl ⟨rfl, by show (1 : Int) ≤ 1; omega, by show (1 : Int) ≤ 10; omega, rfl, nuE tx e a, rfl, hE.1⟩))
  · subst h1
    refine Ok.eqp rfl (Ok.ret (Ok.gd (by omega) ?_))
    refine Ok.bind (numeral_ok hT he ha hN (by omega) (by omega)) (fun q1 g1 => ?_)
    rcases g1 with ⟨g0, -⟩ | ⟨-, -, -, g5, g6⟩
    · exact absurd g0 c0
    · refine Ok.eqn (by rw [g5]; omega) ?_
      unfold fX12_bitRead_j54
      refine Ok.eqn (by rw [g5]; omega) (Ok.ret (Or.inl ⟨g5.symm, by show 1 ≤ nuC tx e a lo ((F : Int) - 1); omega, by show nuC tx e a lo ((F : Int) - 1) ≤ 10; omega, g6.symm, nuE tx e a, rfl, hE.1⟩))
end QC
