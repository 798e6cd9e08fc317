/-! A text read. -/
section QI
theorem restore_ok {N : Nat} {ty s sv : Nat → Int} {n ym th tp sz sp w wp sn sf ra : Int} (hN : 12000 < N) : Ok (fX12_tell_L160 N ty n (fX12_tell_j185 N ty n) N 0 ym th tp sz sp w wp sn sf ra s sv) (fun q => q.1 = -30 - w ∧ q.2.1 = ym ∧ q.2.2.2.1 = tp ∧ q.2.2.2.2.2.2.1 = w ∧ q.2.2.2.2.2.2.2.1 = wp ∧ ∀ k, k < 1551 → q.2.2.2.2.2.2.2.2.2.2.2.1 k = sv k) := by
  refine Ok.loop (fun m i g => fX12_tell_L160 N ty n (fX12_tell_j185 N ty n) m (i : Int) ym th tp sz sp w wp sn sf ra g sv) 1551 (fun i g => ∀ k, k < i → g k = sv k) _ ?_ ?_ N 0 s (by omega) (by omega) (fun k hk => by omega)
  · intro m i g hi hI ih
    show Ok (fX12_tell_b160 N ty n _ _ (i : Int) ym th tp sz sp w wp sn sf ra g sv) _
    unfold fX12_tell_b160
    rw [Int.toNat_natCast]
    refine Ok.ltp (by omega) (Ok.gd (by omega) (Ok.gd (by omega) (ih _ ?_)))
    intro k hk
    by_cases z : k = i
    · rw [z, uZ_at]
    · rw [uZ_ne z]; exact hI k (by omega)
  · intro m g hI
    show Ok (fX12_tell_b160 N ty n _ _ ((1551 : Nat) : Int) ym th tp sz sp w wp sn sf ra g sv) _
    unfold fX12_tell_b160 fX12_tell_j185
    exact Ok.ltn (by omega) (Ok.ret ⟨rfl, rfl, rfl, rfl, rfl, hI⟩)
def TxP (e : Nat) (sv : Nat → Int) (ym : Int) (r : Int × Int × Int × Int × Int × Int × Int × Int × Int × Int × (Nat → Int) × (Nat → Int) × (Nat → Int) × (Nat → Int) × (Nat → Int) × (Nat → Int) × (Nat → Int)) (q : Int × Int × Int × Int × Int × Int × Int × Int × Int × Int × Int × (Nat → Int) × (Nat → Int)) : Prop := r.1 = 0 ∧ q.2.2.2.1 = 0 ∧ r.2.1 = q.2.2.2.2.2.2.1 ∧ r.2.2.1 = q.2.2.2.2.2.2.2.1 ∧ ((1 ≤ r.2.1 ∧ r.2.1 ≤ 10 ∧ q.1 = -30 - q.2.2.2.2.2.2.1 ∧ q.2.1 = ym ∧ ∀ k, k < 1551 → q.2.2.2.2.2.2.2.2.2.2.2.1 k = sv k) ∨ (r.2.1 = 0 ∧ q.2.1 = 0 ∧ ∃ W H F : Nat, r.2.2.2.2.2.2.2.1 = (W : Int) ∧ r.2.2.2.2.2.2.2.2.1 = (H : Int) ∧ r.2.2.2.2.2.2.2.2.2.1 = (F : Int) ∧ q.1 = (F : Int) ∧ FV r.2.2.2.2.2.2.2.2.2.2.2.2.2.2.2.2 r.2.2.2.2.2.2.2.2.2.2.1 r.2.2.2.2.2.2.2.2.2.2.2.1 r.2.2.2.2.2.2.2.2.2.2.2.2.2.1 r.2.2.2.2.2.2.2.2.2.2.2.2.1 W H F ∧ SR q.2.2.2.2.2.2.2.2.2.2.2.1 r.2.2.2.2.2.2.2.2.2.2.2.2.2.2.2.2 r.2.2.2.2.2.2.2.2.2.2.1 r.2.2.2.2.2.2.2.2.2.2.2.1 r.2.2.2.2.2.2.2.2.2.2.2.2.2.1 r.2.2.2.2.2.2.2.2.2.2.2.2.1 W H F))
theorem m110_w {N e : Nat} {ty s sv : Nat → Int} {ym th sp sz w wp sn sf ra : Int} (hN : 12000 < N) (hw : 1 ≤ w ∧ w ≤ 10) {r : Int × Int × Int × Int × Int × Int × Int × Int × Int × Int × (Nat → Int) × (Nat → Int) × (Nat → Int) × (Nat → Int) × (Nat → Int) × (Nat → Int) × (Nat → Int)} (h0 : r.1 = 0) (h1 : r.2.1 = w) (h2 : r.2.2.1 = wp) : Ok (fX12_tell_L160 N ty (e : Int) (fX12_tell_j185 N ty (e : Int)) N 0 ym th 0 sz sp w wp sn sf ra s sv) (fun q => TxP e sv ym r q) := by
  refine Ok.mono (restore_ok hN) (fun q hq => ?_)
  obtain ⟨g1, g2, g3, g4, g5, g6⟩ := hq
  exact ⟨h0, g3, by rw [g4, h1], by rw [g5, h2], Or.inl ⟨by omega, by omega, by rw [g1, g4], g2, g6⟩⟩
theorem text_end {N e : Nat} {d cu sk se we : Nat → Int} {W H F : Nat} {tx ty s sv wt to : Nat → Int} {nb na ym th sp sz sn sf ra at0 : Int} (hN : 12000 < N) (he : e ≤ 900) (hv : RV d cu sk se we W H F) (hs : SR s d cu sk se we W H F) : Ok (fX7_readText_j50 N tx (e : Int) 0 0 (-1) (e : Int) at0 nb na W H F cu sk we se to wt d) (fun r => Ok (fX12_tell_j110 N ty (e : Int) ym th 0 sz sp 0 (-1) sn sf ra s sv) (fun q => TxP e sv ym r q)) := by
  have s4 : s 4 = se 1 := hs.2.2.2.1 1 (by omega)
  have s5 : s 5 = se 2 := hs.2.2.2.1 2 (by omega)
  have b1 : 0 ≤ se 1 ∧ se 1 ≤ 15 := hv.2.2.2.2.2.2.2.1 1 (by omega)
  have b2 : 0 ≤ se 2 ∧ se 2 ≤ 15 := hv.2.2.2.2.2.2.2.1 2 (by omega)
  unfold fX7_readText_j50 fX12_tell_j110 fX7_fail
  rw [(show ((1 : Int)).toNat = 1 from rfl), (show ((2 : Int)).toNat = 2 from rfl), (show ((4 : Int)).toNat = 4 from rfl), (show ((5 : Int)).toNat = 5 from rfl), s4, s5]
  refine Ok.eqp rfl (Ok.gd (by omega) (Ok.gd (by omega) (Ok.lt (by omega) (fun q => ?_) (fun q => Ok.ret ?_))))
  · refine Ok.bind (Ok.ret (P := fun r => r = ((6 : Int), (e : Int))) rfl) (fun r12 h12 => ?_)
    subst h12
    refine Ok.ret (Ok.eqp rfl (Ok.gd (by omega) (Ok.gd (by omega) (Ok.ltp (by omega) (Ok.bind fails_0 (fun r22 h22 => ?_))))))
    subst h22
    exact Ok.eqn (by show (6 : Int) ≠ 0 ∧ (-2147483648 ≤ (6 : Int) ∧ (6 : Int) < 2147483648) ∧ -2147483648 ≤ (0 : Int) ∧ (0 : Int) < 2147483648; omega) (m110_w hN (by show (1 : Int) ≤ 6 ∧ (6 : Int) ≤ 10; omega) rfl rfl rfl)
  · refine Ok.eqp rfl (Ok.gd (by omega) (Ok.gd (by omega) (Ok.ltn (by omega) (Ok.eqp rfl (Ok.gd (by omega) (Ok.ret ?_))))))
    exact ⟨rfl, rfl, rfl, rfl, Or.inr ⟨rfl, rfl, W, H, F, rfl, rfl, rfl, hs.2.2.1, hv.fv q, hs⟩⟩
theorem text_loop {N e : Nat} {tx ty sv : Nat → Int} {ym th sz : Int} (hT : TpR e tx ty) (he : e ≤ 900) (hN : 12000 < N) : ∀ (m m2 i sp : Nat) (nb na sn sf ra : Int) (d cu sk se we : Nat → Int) (W H F : Nat) (wt to s : Nat → Int), e + 1 < m + sp → e + 1 < m2 + sp → i ≤ sp → sp ≤ e → RV d cu sk se we W H F → SR s d cu sk se we W H F → WtR wt sf → ToR to sn (se 5) → Ok (fX7_readText_L11 N tx (e : Int) (fX7_readText_j50 N tx (e : Int)) m i 0 0 (-1) (e : Int) (bkS tx e sp : Int) nb na W H F cu sk we se to wt d) (fun r => Ok (fX12_tell_L88 N ty (e : Int) (fX12_tell_j110 N ty (e : Int)) m2 ym th 0 (e : Int) sp 0 (-1) sn sf ra s sv) (fun q => TxP e sv ym r q)) := by
  intro m
  induction m with
  | zero => intro m2 i sp nb na sn sf ra d cu sk se we W H F wt to s h1 h2 h3 h4; omega
  | succ m ihm =>
    intro m2 i sp nb na sn sf ra d cu sk se we W H F wt to s h1 h2 h3 h4 hv hs hw hto
    obtain ⟨m3, rfl⟩ : ∃ m3, m2 = m3 + 1 := ⟨m2 - 1, by omega⟩
    obtain ⟨a, ha⟩ : ∃ a, a = bkS tx e sp := ⟨_, rfl⟩
    have hae : a ≤ e := by rw [ha]; exact bkS_le h4
    have hag : sp ≤ a := by rw [ha]; exact bkS_ge tx e sp
    have hcc : bkS tx e a = a := by rw [ha]; exact bk_idem
    rw [← ha]
    show Ok (fX7_readText_b11 N tx (e : Int) _ _ i 0 0 (-1) (e : Int) a nb na W H F cu sk we se to wt d) _
    unfold fX7_readText_b11
    have peek : ∀ {P : Int × Int × Int × Int × Int × Int × Int × Int × Int × Int × Int × (Nat → Int) × (Nat → Int) → Prop}, (e ≤ a → Ok (fX12_tell_j110 N ty (e : Int) ym th 0 (e : Int) a 0 (-1) sn sf ra s sv) P) → (a < e → Ok ((fX12_lineRead N (e : Int) ty a 0 (-1) sn sf ra s).bind fun r10 => fX12_tell_L88 N ty (e : Int) (fX12_tell_j110 N ty (e : Int)) m3 ym th 0 (e : Int) r10.1 r10.2.1 r10.2.2.1 r10.2.2.2.1 r10.2.2.2.2.1 r10.2.2.2.2.2.1 r10.2.2.2.2.2.2 sv) P) → Ok (fX12_tell_L88 N ty (e : Int) (fX12_tell_j110 N ty (e : Int)) (m3 + 1) ym th 0 (e : Int) sp 0 (-1) sn sf ra s sv) P := by
      intro P y1 y2
      show Ok (fX12_tell_b88 N ty (e : Int) _ _ ym th 0 (e : Int) sp 0 (-1) sn sf ra s sv) _
      unfold fX12_tell_b88
      refine Ok.eqp rfl (Ok.bind (peek_ok hT he (by omega) (by omega)) (fun r8 h8 => ?_))
      obtain ⟨k1, k2⟩ := h8
      rw [← ha] at k1 k2
      rw [k1]
      rcases k2 with ⟨z1, z2, z3⟩ | ⟨z1, z2⟩
      · exact Ok.eqn (by omega) (y2 z1)
      · exact Ok.eqp z2 (y1 z1)
    by_cases hlt : a < e
    · refine Ok.ltp (by omega) (Ok.ltp (by omega) (Ok.eqp rfl (Ok.bind (line_j (pl := -1) (nb := nb) (na := na) (wa := -1) (ra := ra) hT he hlt hcc (by omega) hv hs hw hto) (fun r6 h6 => ?_))))
      obtain ⟨q10, e10, hL⟩ := h6
      rcases hL with ⟨b1, b2, b3, b4, a2, b5, b6⟩ | ⟨b1, b2, b3, b4, a2, W2, H2, F2, b5, b6, b7, b8, b9, b10, b11, b12, b13, b14, b15⟩
      · rw [b5]
        refine Ok.bind (skipBlanks_ok hT he b6 (by omega)) (fun r7 h7 => ?_)
        rw [h7]
        have hbe := bkS_le (tx := tx) b6
        have fin : Ok (fX7_readText_j50 N tx (e : Int) 0 r6.1 r6.2.1 (e : Int) (bkS tx e a2 : Int) r6.2.2.2.1 r6.2.2.2.2.1 r6.2.2.2.2.2.1 r6.2.2.2.2.2.2.1 r6.2.2.2.2.2.2.2.1 r6.2.2.2.2.2.2.2.2.2.2.2.1 r6.2.2.2.2.2.2.2.2.2.2.1 r6.2.2.2.2.2.2.2.2.2.2.2.2.2.1 r6.2.2.2.2.2.2.2.2.2.1 r6.2.2.2.2.2.2.2.2.1 r6.2.2.2.2.2.2.2.2.2.2.2.2.1 r6.2.2.2.2.2.2.2.2.2.2.2.2.2.2) (fun r => Ok (fX12_tell_L88 N ty (e : Int) (fX12_tell_j110 N ty (e : Int)) (m3 + 1) ym th 0 (e : Int) sp 0 (-1) sn sf ra s sv) (fun q => TxP e sv ym r q)) := by
          unfold fX7_readText_j50
          refine Ok.eqn (by omega) (Ok.ret (peek (fun y => by omega) (fun _ => ?_)))
          refine Ok.bind (P := fun x => x = q10) ⟨q10, e10, rfl⟩ (fun r10 h10 => ?_)
          rw [h10]
          refine fuel1 (f := fun mm => fX12_tell_L88 N ty (e : Int) (fX12_tell_j110 N ty (e : Int)) mm ym th 0 (e : Int) q10.1 q10.2.1 q10.2.2.1 q10.2.2.2.1 q10.2.2.2.2.1 q10.2.2.2.2.2.1 q10.2.2.2.2.2.2 sv) (by omega) (fun mm => ?_)
          show Ok (fX12_tell_b88 N ty (e : Int) _ _ ym th 0 (e : Int) q10.1 q10.2.1 q10.2.2.1 q10.2.2.2.1 q10.2.2.2.2.1 q10.2.2.2.2.2.1 q10.2.2.2.2.2.2 sv) _
          unfold fX12_tell_b88
          refine Ok.eqn (by omega) ?_
          unfold fX12_tell_j110
          exact Ok.eqn (by omega) (Ok.eqn (by omega) (m110_w hN (by omega) rfl b1 b4))
        refine fuel1 (f := fun mm => fX7_readText_L11 N tx (e : Int) (fX7_readText_j50 N tx (e : Int)) mm ((i : Int) + 1) 0 r6.1 r6.2.1 (e : Int) (bkS tx e a2 : Int) r6.2.2.2.1 r6.2.2.2.2.1 r6.2.2.2.2.2.1 r6.2.2.2.2.2.2.1 r6.2.2.2.2.2.2.2.1 r6.2.2.2.2.2.2.2.2.2.2.2.1 r6.2.2.2.2.2.2.2.2.2.2.1 r6.2.2.2.2.2.2.2.2.2.2.2.2.2.1 r6.2.2.2.2.2.2.2.2.2.1 r6.2.2.2.2.2.2.2.2.1 r6.2.2.2.2.2.2.2.2.2.2.2.2.1 r6.2.2.2.2.2.2.2.2.2.2.2.2.2.2) (by omega) (fun mm => ?_)
        show Ok (fX7_readText_b11 N tx (e : Int) _ _ ((i : Int) + 1) 0 r6.1 r6.2.1 (e : Int) (bkS tx e a2 : Int) r6.2.2.2.1 r6.2.2.2.2.1 r6.2.2.2.2.2.1 r6.2.2.2.2.2.2.1 r6.2.2.2.2.2.2.2.1 r6.2.2.2.2.2.2.2.2.2.2.2.1 r6.2.2.2.2.2.2.2.2.2.2.1 r6.2.2.2.2.2.2.2.2.2.2.2.2.2.1 r6.2.2.2.2.2.2.2.2.2.1 r6.2.2.2.2.2.2.2.2.1 r6.2.2.2.2.2.2.2.2.2.2.2.2.1 r6.2.2.2.2.2.2.2.2.2.2.2.2.2.2) _
        unfold fX7_readText_b11
        exact Ok.lt (by omega) (fun _ => Ok.lt (by omega) (fun _ => Ok.eqn (by omega) fin) (fun _ => fin)) (fun _ => fin)
      · rw [b5]
        refine Ok.bind (skipBlanks_ok hT he b8 (by omega)) (fun r7 h7 => ?_)
        rw [h7, b1, b3, b9, b10, b11, show (i : Int) + 1 = ((i + 1 : Nat) : Int) by omega]
        refine Ok.mono (ihm m3 (i + 1) a2 _ _ q10.2.2.2.1 q10.2.2.2.2.1 q10.2.2.2.2.2.1 _ _ _ _ _ W2 H2 F2 _ _ q10.2.2.2.2.2.2 (by omega) (by omega) (by omega) b8 b12 b13 b14 b15) (fun r hr => peek (fun y => by omega) (fun _ => ?_))
        refine Ok.bind (P := fun x => x = q10) ⟨q10, e10, rfl⟩ (fun r10 h10 => ?_)
        rw [h10, b2, b4, b6]
        exact hr
    · have hae2 : a = e := by omega
      have fin : Ok (fX7_readText_j50 N tx (e : Int) 0 0 (-1) (e : Int) a nb na W H F cu sk we se to wt d) (fun r => Ok (fX12_tell_L88 N ty (e : Int) (fX12_tell_j110 N ty (e : Int)) (m3 + 1) ym th 0 (e : Int) sp 0 (-1) sn sf ra s sv) (fun q => TxP e sv ym r q)) := Ok.mono (text_end hN he hv hs) (fun r hr => peek (fun _ => hr) (fun y => by omega))
      exact Ok.lt (by omega) (fun _ => Ok.ltn (by omega) fin) (fun _ => fin)
end QI
