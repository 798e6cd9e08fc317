/-! What stands behind a word: all words but frame. -/
section QD
def mdZ (z : Nat) (m : Int) : Int := if z = 8 then 1 else if z = 9 then 2 else m
theorem once_v : onceZ 0 = 6 ∧ onceZ 1 = -1 ∧ onceZ 2 = ((0 : Nat) : Int) ∧ onceZ 3 = -1 ∧ onceZ 4 = ((1 : Nat) : Int) ∧ onceZ 5 = ((2 : Nat) : Int) ∧ onceZ 6 = ((3 : Nat) : Int) ∧ onceZ 7 = ((4 : Nat) : Int) ∧ onceZ 8 = 5 ∧ onceZ 9 = 5 ∧ onceZ 10 = -1 ∧ onceZ 11 = -1 := by decide +kernel
theorem behind_set {N e a k z : Nat} {d cu sk se we : Nat → Int} {W H F : Nat} {tx ty s wt : Nat → Int} {pl nb na wa sf ra m5 : Int} (hT : TpR e tx ty) (he : e ≤ 900) (ha : a ≤ e) (hN : 1000 < N) (hv : RV d cu sk se we W H F) (hs : SR s d cu sk se we W H F) (hw : WtR wt sf) (hz : z < 12 ∧ z ≠ 0 ∧ z ≠ 3 ∧ z ≠ 10 ∧ z ≠ 11 ∧ z ≠ 8 ∧ z ≠ 9) (ho : onceZ z = (k : Int)) (hk : k < 5) (hm : m5 = se 5) (hb : ∀ P : Int × Int × Int × Int × Int × (Nat → Int) → Prop, Ok ((fX12_numeral N e ty a 0 wa ra 0 (hsZ k)).bind fun r14 => (gd ((0 : Int) ≤ 3 + (k : Int) ∧ 3 + (k : Int) < 1551) (some ((r14.2.1, r14.2.2.1, r14.2.2.2.1, sf, r14.2.2.2.2, uZ s (3 + (k : Int)).toNat r14.1))))) P → Ok (fX12_behind N e ty a 0 wa sf ra s (z : Int)) P) : Ok (fX7_readNumbers N z e tx F 0 pl a nb na W H se sk cu wt we) (fun r => Ok (fX12_behind N e ty a 0 wa sf ra s (z : Int)) (fun q => BhP e a d F pl wa m5 r q)) := by
  unfold fX7_readNumbers
  rw [if_neg hz.2.1, if_neg hz.2.2.1, if_neg hz.2.2.2.1, if_neg hz.2.2.2.2.1, if_neg hz.2.2.2.2.2.1, if_neg hz.2.2.2.2.2.2, ho, hm]
  refine Ok.eqn (by omega) (Ok.gd (by omega) ?_)
  rw [Int.toNat_natCast]
  have hhs : 0 ≤ hsZ k ∧ hsZ k ≤ 999 := by
    have h5 : k = 0 ∨ k = 1 ∨ k = 2 ∨ k = 3 ∨ k = 4 := by omega
    rcases h5 with rfl | rfl | rfl | rfl | rfl <;> decide
  have h := num_set (z := z) (N := N) (pl := pl) (nb := nb) (na := na) (wa := wa) (ra := ra) hT he ha hN hv hs hw hk rfl hhs
  rw [Int.toNat_natCast] at h
  exact Ok.mono h (fun r hr => hb _ hr)
theorem behind_j {N e a z : Nat} {d cu sk se we : Nat → Int} {W H F : Nat} {tx ty s wt : Nat → Int} {pl nb na wa sf ra : Int} (hT : TpR e tx ty) (he : e ≤ 900) (ha : a ≤ e) (hN : 1000 < N) (hv : RV d cu sk se we W H F) (hs : SR s d cu sk se we W H F) (hw : WtR wt sf) (hz : z < 12) (h1 : z ≠ 1) (h0 : z = 0 → F = 0) : Ok (fX7_readNumbers N z e tx F 0 pl a nb na W H se sk cu wt we) (fun r => Ok (fX12_behind N e ty a 0 wa sf ra s (z : Int)) (fun q => BhP e a d F pl wa (mdZ z (se 5)) r q)) := by
  obtain ⟨o0, o1, o2, o3, o4, o5, o6, o7, o8, o9, o10, o11⟩ := once_v
  have hc : z = 0 ∨ z = 2 ∨ z = 3 ∨ z = 4 ∨ z = 5 ∨ z = 6 ∨ z = 7 ∨ z = 8 ∨ z = 9 ∨ z = 10 ∨ z = 11 := by omega
  rcases hc with rfl | rfl | rfl | rfl | rfl | rfl | rfl | rfl | rfl | rfl | rfl
  · exact size_j hT he ha hN hv hs hw (h0 rfl)
  · refine behind_set (k := 0) hT he ha hN hv hs hw (by omega) o2 (by omega) rfl (fun P hP => ?_)
    unfold fX12_behind
    exact Ok.eqn (by omega) (Ok.eqn (by omega) (Ok.eqp rfl hP))
  · unfold fX7_readNumbers
    rw [if_neg (by omega), if_pos rfl]
    refine Ok.bind (wread_j (pl := pl) (wa := wa) (ra := ra) hT he ha hN hv hs hw) (fun r16 h16 => Ok.ret ?_)
    unfold fX12_behind
    refine Ok.eqn (by omega) (Ok.eqn (by omega) (Ok.eqn (by omega) (Ok.eqp rfl (Ok.bind h16 (fun q12 g12 => Ok.ret g12)))))
  · refine behind_set (k := 1) hT he ha hN hv hs hw (by omega) o4 (by omega) rfl (fun P hP => ?_)
    unfold fX12_behind fX12_behind_j106
    rw [show ((3 + ((4 : Nat) : Int)) - 4) + 1 = 3 + ((1 : Nat) : Int) by omega]
    exact Ok.eqn (by omega) (Ok.eqn (by omega) (Ok.eqn (by omega) (Ok.eqn (by omega) (Ok.eqp rfl hP))))
  · refine behind_set (k := 2) hT he ha hN hv hs hw (by omega) o5 (by omega) rfl (fun P hP => ?_)
    unfold fX12_behind fX12_behind_j106
    rw [show ((3 + ((5 : Nat) : Int)) - 4) + 1 = 3 + ((2 : Nat) : Int) by omega]
    exact Ok.eqn (by omega) (Ok.eqn (by omega) (Ok.eqn (by omega) (Ok.eqn (by omega) (Ok.eqn (by omega) (Ok.eqp rfl hP)))))
  · refine behind_set (k := 3) hT he ha hN hv hs hw (by omega) o6 (by omega) rfl (fun P hP => ?_)
    unfold fX12_behind fX12_behind_j106
    rw [show ((3 + ((6 : Nat) : Int)) - 4) + 1 = 3 + ((3 : Nat) : Int) by omega]
    exact Ok.eqn (by omega) (Ok.eqn (by omega) (Ok.eqn (by omega) (Ok.eqn (by omega) (Ok.eqn (by omega) (Ok.eqn (by omega) (Ok.eqp rfl hP))))))
  · refine behind_set (k := 4) hT he ha hN hv hs hw (by omega) o7 (by omega) rfl (fun P hP => ?_)
    unfold fX12_behind
    exact Ok.eqn (by omega) (Ok.eqn (by omega) (Ok.eqn (by omega) (Ok.eqn (by omega) (Ok.eqn (by omega) (Ok.eqn (by omega) (Ok.eqn (by omega) (Ok.eqp rfl hP)))))))
  · unfold fX7_readNumbers
    rw [if_neg (by omega), if_neg (by omega), if_neg (by omega), if_neg (by omega), if_pos rfl, (show ((5 : Int)).toNat = 5 from rfl)]
    refine Ok.gd (by omega) (Ok.ret ?_)
    unfold fX12_behind
    rw [(show ((8 : Int)).toNat = 8 from rfl)]
    refine Ok.eqn (by omega) (Ok.eqn (by omega) (Ok.eqn (by omega) (Ok.eqn (by omega) (Ok.eqn (by omega) (Ok.eqn (by omega) (Ok.eqn (by omega) (Ok.eqn (by omega) (Ok.eqp rfl (Ok.eqp rfl (Ok.gd (by omega) (Ok.ret ?_)))))))))))
    exact Or.inr ⟨rfl, rfl, rfl, rfl, a, W, H, rfl, rfl, Nat.le_refl a, ha, rfl, rfl, hv.set (k := 5) (by decide), hs.set (k := 5) (by omega), hw, rfl⟩
  · unfold fX7_readNumbers
    rw [if_neg (by omega), if_neg (by omega), if_neg (by omega), if_neg (by omega), if_neg (by omega), if_pos rfl, (show ((5 : Int)).toNat = 5 from rfl)]
    refine Ok.gd (by omega) (Ok.ret ?_)
    unfold fX12_behind
    rw [(show ((8 : Int)).toNat = 8 from rfl)]
    refine Ok.eqn (by omega) (Ok.eqn (by omega) (Ok.eqn (by omega) (Ok.eqn (by omega) (Ok.eqn (by omega) (Ok.eqn (by omega) (Ok.eqn (by omega) (Ok.eqn (by omega) (Ok.eqn (by omega) (Ok.eqp rfl (Ok.eqn (by omega) (Ok.gd (by omega) (Ok.ret ?_))))))))))))
    exact Or.inr ⟨rfl, rfl, rfl, rfl, a, W, H, rfl, rfl, Nat.le_refl a, ha, rfl, rfl, hv.set (k := 5) (by decide), hs.set (k := 5) (by omega), hw, rfl⟩
  · unfold fX7_readNumbers
    rw [if_neg (by omega), if_neg (by omega), if_pos rfl]
    refine Ok.bind (mark_j (ix := 13) (pl := pl) (wa := wa) (ra := ra) hT he ha hN hv.2.2.1 hs.2.2.1 (by omega) hs.2.2.2.2.2.1 (by omega)) (fun r15 h15 => Ok.ret ?_)
    unfold fX12_behind fX12_bitRead
    refine Ok.eqn (by omega) (Ok.eqn (by omega) (Ok.eqn (by omega) (Ok.eqn (by omega) (Ok.eqn (by omega) (Ok.eqn (by omega) (Ok.eqn (by omega) (Ok.eqn (by omega) (Ok.eqn (by omega) (Ok.eqn (by omega) (Ok.eqp rfl (Ok.bind (Ok.eqp rfl h15) (fun q31 g31 => Ok.ret ?_))))))))))))
    rcases g31 with g | ⟨g1, g2, g3, g4, a2, k, g5, g6, g7, g8, g9, g10, g11⟩
    · exact Or.inl g
    · refine Or.inr ⟨g1, g2, g3, g4, a2, W, H, g5, g6, g7, g8, rfl, rfl, ?_, ?_, hw, rfl⟩
      · show RV d r15.2.2.2.2.2 sk se we W H F
        rw [g10]; exact hv.putc g9
      · show SR q31.2.2.2.2 d r15.2.2.2.2.2 sk se we W H F
        rw [g10, g11]; exact hs.cuts (hs.2.2.2.2.2.1.put (by have := hv.2.2.1; omega))
  · unfold fX7_readNumbers
    rw [if_neg (by omega), if_neg (by omega), if_neg (by omega), if_pos rfl]
    refine Ok.bind (mark_j (ix := 14) (pl := pl) (wa := wa) (ra := ra) hT he ha hN hv.2.2.1 hs.2.2.1 (by omega) hs.2.2.2.2.2.2.1 (by omega)) (fun r15 h15 => Ok.ret ?_)
    unfold fX12_behind fX12_bitRead
    refine Ok.eqn (by omega) (Ok.eqn (by omega) (Ok.eqn (by omega) (Ok.eqn (by omega) (Ok.eqn (by omega) (Ok.eqn (by omega) (Ok.eqn (by omega) (Ok.eqn (by omega) (Ok.eqn (by omega) (Ok.eqn (by omega) (Ok.eqn (by omega) (Ok.bind (Ok.eqn (by omega) h15) (fun q31 g31 => Ok.ret ?_))))))))))))
    rcases g31 with g | ⟨g1, g2, g3, g4, a2, k, g5, g6, g7, g8, g9, g10, g11⟩
    · exact Or.inl g
    · refine Or.inr ⟨g1, g2, g3, g4, a2, W, H, g5, g6, g7, g8, rfl, rfl, ?_, ?_, hw, rfl⟩
      · show RV d cu r15.2.2.2.2.2 se we W H F
        rw [g10]; exact hv.puts g9
      · show SR q31.2.2.2.2 d cu r15.2.2.2.2.2 se we W H F
        rw [g10, g11]; exact hs.skips (hs.2.2.2.2.2.2.1.put (by have := hv.2.2.1; omega))
end QD
