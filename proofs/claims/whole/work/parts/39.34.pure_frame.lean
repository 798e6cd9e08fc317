/-! A frame read. -/
section QF
theorem frame_end {d cu sk se we : Nat → Int} {W H F : Nat} {s d1 s1 : Nat → Int} (hv : RV d cu sk se we W H F) (hs : SR s d cu sk se we W H F) (hF : F < 24) (h1 : ∀ j, j < 64 * F → d1 j = d j) (h2 : ∀ j, j < 15 + 64 * F → s1 j = s j) (h3 : ∀ p, p < W * H → s1 (15 + 64 * F + p) = d1 (64 * F + p) ∧ 0 ≤ d1 (64 * F + p) ∧ d1 (64 * F + p) ≤ 15) : RV d1 cu sk se we W H (F + 1) ∧ SR (uZ s1 2 ((F + 1 : Nat) : Int)) d1 cu sk se we W H (F + 1) := by
  have hS := (size_b hv.1 hv.2.1).2
  obtain ⟨v1, v2, v3, v4, v5, v6, v7, v8, v10⟩ := hv
  obtain ⟨s1', s2', s3', s4', s5', s6', s7', s8'⟩ := hs
  refine ⟨⟨v1, v2, by omega, ?_, v5, v6, fun t ht => v7 t (by omega), v8, v10⟩, ?_, ?_, uZ_at _ _ _, ?_, ?_, ?_, ?_, ?_⟩
  · intro t p ht hp
    by_cases z : t = F
    · rw [z]; exact (h3 p hp).2
    · rw [h1 (64 * t + p) (by omega)]; exact v4 t p (by omega) hp
  · rw [uZ_ne (by omega), h2 0 (by omega)]; exact s1'
  · rw [uZ_ne (by omega), h2 1 (by omega)]; exact s2'
  · intro k hk; rw [uZ_ne (by omega), h2 (3 + k) (by omega)]; exact s4' k hk
  · intro k hk; rw [uZ_ne (by omega), h2 (9 + k) (by omega)]; exact s5' k hk
  · rw [uZ_ne (by omega), h2 13 (by omega)]; exact s6'
  · rw [uZ_ne (by omega), h2 14 (by omega)]; exact s7'
  · intro t p ht hp
    rw [uZ_ne (by omega)]
    by_cases z : t = F
    · rw [z]; exact (h3 p hp).1
    · rw [h2 (15 + 64 * t + p) (by omega), h1 (64 * t + p) (by omega)]; exact s8' t p (by omega) hp
def FrP (tx : Nat → Int) (e a0 : Nat) (cu sk se we : Nat → Int) (W H F : Nat) (pl wa : Int) (r : Int × Int × Int × Int × Int × Int × (Nat → Int)) (q : Int × Int × Int × Int × (Nat → Int)) : Prop := (r.1 = q.2.1 ∧ 1 ≤ r.1 ∧ r.1 ≤ 10 ∧ r.2.1 = q.2.2.1 ∧ ∃ a2 : Nat, r.2.2.1 = (a2 : Int) ∧ a2 ≤ e) ∨ (r.1 = 0 ∧ q.2.1 = 0 ∧ r.2.1 = pl ∧ q.2.2.1 = wa ∧ ∃ b2 : Nat, r.2.2.1 = ((b2 + 1 : Nat) : Int) ∧ q.1 = (b2 : Int) ∧ b2 < e ∧ tx b2 = 59 ∧ a0 ≤ b2 ∧ r.2.2.2.2.2.1 = ((F + 1 : Nat) : Int) ∧ RV r.2.2.2.2.2.2 cu sk se we W H (F + 1) ∧ SR q.2.2.2.2 r.2.2.2.2.2.2 cu sk se we W H (F + 1))
theorem frame_loop {N e a0 : Nat} {d cu sk se we : Nat → Int} {W H F : Nat} {tx ty s : Nat → Int} {pl wa x1 : Int} (hT : TpR e tx ty) (he : e ≤ 900) (hN : 1000 < N) (hv : RV d cu sk se we W H F) (hs : SR s d cu sk se we W H F) (hF : F < 24) (ha0 : 1 ≤ a0) : ∀ (m m2 i n b : Nat) (nb na ra : Int) (d1 s1 : Nat → Int), e + 1 < m + b → e + 1 < m2 + b → a0 + i ≤ b → b ≤ e → n ≤ W * H → (i = 0 → n = 0) → (0 < i → 0 < n) → (∀ j, j < 64 * F → d1 j = d j) → (∀ j, j < 15 + 64 * F → s1 j = s j) → (∀ p, p < n → s1 (15 + 64 * F + p) = d1 (64 * F + p) ∧ 0 ≤ d1 (64 * F + p) ∧ d1 (64 * F + p) ≤ 15) → Ok (fX7_readFrame_L23 N e W H tx x1 (fX7_readFrame_j76 N e W H tx x1) m n i 0 pl b nb na F d1) (fun r => Ok (fX12_frameRead_L9 N e ty (fX12_frameRead_j176 N e ty) m2 n F b 0 wa ra s1) (fun q => FrP tx e a0 cu sk se we W H F pl wa r q)) := by
  have hS := (size_b hv.1 hv.2.1).2
  intro m
  induction m with
  | zero => intro m2 i n b nb na ra d1 s1 h1 h2 h3 h4; omega
  | succ m ihm =>
    intro m2 i n b nb na ra d1 s1 h1 h2 h3 h4 hn hi0 hi1 hd1 hs1 hp1
    obtain ⟨m3, rfl⟩ : ∃ m3, m2 = m3 + 1 := ⟨m2 - 1, by omega⟩
    have g0 : s1 0 = (W : Int) := by rw [hs1 0 (by omega)]; exact hs.1
    have g1 : s1 1 = (H : Int) := by rw [hs1 1 (by omega)]; exact hs.2.1
    have g2 : s1 2 = (F : Int) := by rw [hs1 2 (by omega)]; exact hs.2.2.1
    obtain ⟨c, hc⟩ : ∃ c, c = bkS tx e b := ⟨_, rfl⟩
    have hce : c ≤ e := by rw [hc]; exact bkS_le h4
    have hcb : b ≤ c := by rw [hc]; exact bkS_ge tx e b
    have after : ∀ b' : Nat, b' ≤ e → bkS tx e b' = c → Ok ((fX7_readRun N e tx W H F 0 pl c nb na d1 n).bind fun r6 => fX7_readFrame_L23 N e W H tx x1 (fX7_readFrame_j76 N e W H tx x1) m ((n : Int) + r6.1) ((i : Int) + 1) r6.2.1 r6.2.2.1 r6.2.2.2.1 r6.2.2.2.2.1 r6.2.2.2.2.2.1 F r6.2.2.2.2.2.2) (fun r => Ok (fX12_frameRead_j29 N e ty (fX12_frameRead_L9 N e ty (fX12_frameRead_j176 N e ty) m3) (fX12_frameRead_j176 N e ty) n F b' 0 wa ra s1) (fun q => FrP tx e a0 cu sk se we W H F pl wa r q)) := by
      intro b' hb' hbc
      refine Ok.bind (readRun_ok hT he hce hN hF hS hn) (fun r6 h6 => ?_)
      rcases h6 with ⟨w, p, hR, k1, k2, az, k3, k4⟩ | ⟨M, E, hR, k1, k2, k3, k4, k5⟩
      · rw [k1, k2]
        have hw := hR.b
        have fin : Ok (fX7_readFrame_j76 N e W H tx x1 w p r6.2.2.2.1 r6.2.2.2.2.1 r6.2.2.2.2.2.1 F r6.2.2.2.2.2.2) (fun r => Ok (fX12_frameRead_j29 N e ty (fX12_frameRead_L9 N e ty (fX12_frameRead_j176 N e ty) m3) (fX12_frameRead_j176 N e ty) n F b' 0 wa ra s1) (fun q => FrP tx e a0 cu sk se we W H F pl wa r q)) := by
          unfold fX7_readFrame_j76
          refine Ok.ret (mrun_ok hT he hb' hbc hN hF hS g0 g1 hn ?_ ?_)
          · intro w' p' n' sp ra' hR'
            have hww : w' = w ∧ p' = p := by
              rcases hR with ⟨a1, a2, a3⟩ | ⟨a1, a2, a3, a4, a5⟩ | ⟨a1, ⟨M, E, a2, a3⟩, a4, a5⟩
              · rcases hR' with ⟨c1, c2, c3⟩ | ⟨c1, c2, c3, c4, c5⟩ | ⟨c1, ⟨M', E', c2, c3⟩, c4, c5⟩
                · exact ⟨by rw [a2, c2], by rw [a3, c3]⟩
                · exact absurd c1 a1
                · exact absurd c1 a1
              · rcases hR' with ⟨c1, c2, c3⟩ | ⟨c1, c2, c3, c4, c5⟩ | ⟨c1, ⟨M', E', c2, c3⟩, c4, c5⟩
                · exact absurd a1 c1
                · exact ⟨by rw [a4, c4], by rw [a5, c5]⟩
                · rcases c2 with ⟨e1, e2, e3⟩ | ⟨e1, e2⟩
                  · exact absurd e2 a3
                  · exact absurd a2 e1
              · rcases hR' with ⟨c1, c2, c3⟩ | ⟨c1, c2, c3, c4, c5⟩ | ⟨c1, ⟨M', E', c2, c3⟩, c4, c5⟩
                · exact absurd a1 c1
                · rcases a2 with ⟨e1, e2, e3⟩ | ⟨e1, e2⟩
                  · exact absurd e2 c3
                  · exact absurd c2 e1
                · exact ⟨by rw [a4, c4], by rw [a5, c5]⟩
            rw [hww.1, hww.2]
            refine fuel1 (f := fun mm => fX12_frameRead_L9 N e ty (fX12_frameRead_j176 N e ty) mm n' F sp w p ra' s1) (by omega) (fun mm => ?_)
            show Ok (fX12_frameRead_b9 N e ty _ _ n' F sp w p ra' s1) _
            unfold fX12_frameRead_b9 fX12_frameRead_j176
            refine Ok.eqn (by omega) (Ok.eqn (by omega) (Ok.gd (by omega) (Ok.gd (by omega) (Ok.ret ?_))))
            exact Or.inl ⟨rfl, by show 1 ≤ w; omega, by show w ≤ 10; omega, rfl, az, k3, k4⟩
          · intro M' E' hR' ra'
            exfalso
            obtain ⟨c1, c2, c3⟩ := hR'
            rcases hR with ⟨a1, a2, a3⟩ | ⟨a1, a2, a3, a4, a5⟩ | ⟨a1, ⟨M, E, a2, a3⟩, a4, a5⟩
            · exact a1 c1
            · rcases c2 with ⟨e1, e2, e3⟩ | ⟨e1, e2⟩
              · exact absurd e2 a3
              · exact absurd a2 e1
            · rcases a2 with ⟨e1, e2, e3, e4⟩ | ⟨e1, e2, e3⟩
              · rcases c2 with ⟨f1, f2, f3, f4⟩ | ⟨f1, f2, f3⟩
                · omega
                · exact f1 e1
              · rcases c2 with ⟨f1, f2, f3, f4⟩ | ⟨f1, f2, f3⟩
                · exact e1 f1
                · omega
        refine fuel1 (f := fun mm => fX7_readFrame_L23 N e W H tx x1 (fX7_readFrame_j76 N e W H tx x1) mm ((n : Int) + r6.1) ((i : Int) + 1) w p r6.2.2.2.1 r6.2.2.2.2.1 r6.2.2.2.2.2.1 F r6.2.2.2.2.2.2) (by omega) (fun mm => ?_)
        show Ok (fX7_readFrame_b23 N e W H tx x1 _ _ ((n : Int) + r6.1) ((i : Int) + 1) w p r6.2.2.2.1 r6.2.2.2.2.1 r6.2.2.2.2.2.1 F r6.2.2.2.2.2.2) _
        unfold fX7_readFrame_b23
        exact Ok.lt (by omega) (fun _ => Ok.eqn (by omega) fin) (fun _ => fin)
      · rw [k1, k2, k3, k4, k5]
        have hMb := hR.2.1.b hR.1.1
        have hnM : n + M ≤ W * H := hR.2.2
        have hL := hR.1
        rw [show (n : Int) + (M : Int) = ((n + M : Nat) : Int) by omega, show (i : Int) + 1 = ((i + 1 : Nat) : Int) by omega]
        have hmono : ∀ ra' : Int, Ok (fX7_readFrame_L23 N e W H tx x1 (fX7_readFrame_j76 N e W H tx x1) m ((n + M : Nat) : Int) ((i + 1 : Nat) : Int) 0 pl (E : Int) r6.2.2.2.2.1 r6.2.2.2.2.2.1 F (ruS d1 (64 * F + n) M (tx c - 97))) (fun r => Ok (fX12_frameRead_L9 N e ty (fX12_frameRead_j176 N e ty) m3 ((n + M : Nat) : Int) F (E : Int) 0 wa ra' (ruS s1 (15 + 64 * F + n) M (tx c - 97))) (fun q => FrP tx e a0 cu sk se we W H F pl wa r q)) := by
          intro ra'
          refine ihm m3 (i + 1) (n + M) E _ _ ra' _ _ (by omega) (by omega) (by omega) (by omega) hnM (by omega) (by omega) ?_ ?_ ?_
          · intro j hj; rw [ruS_out (by omega)]; exact hd1 j hj
          · intro j hj; rw [ruS_out (by omega)]; exact hs1 j hj
          · intro p hp
            by_cases z : p < n
            · rw [ruS_out (by omega), ruS_out (by omega)]; exact hp1 p z
            · rw [ruS_in (by omega), ruS_in (by omega)]
              have := hL.2
              exact ⟨rfl, by omega, by omega⟩
        obtain ⟨rr, e1, -⟩ := hmono 0
        refine ⟨rr, e1, ?_⟩
        refine mrun_ok hT he hb' hbc hN hF hS g0 g1 hn ?_ ?_
        · intro w' p' n' sp ra' hR'
          exfalso
          obtain ⟨c1, c2, c3⟩ := hR
          rcases hR' with ⟨a1, a2, a3⟩ | ⟨a1, a2, a3, a4, a5⟩ | ⟨a1, ⟨M', E', a2, a3⟩, a4, a5⟩
          · exact a1 c1
          · rcases c2 with ⟨e1, e2, e3⟩ | ⟨e1, e2⟩
            · exact absurd e2 a3
            · exact absurd a2 e1
          · rcases a2 with ⟨e1, e2, e3, e4⟩ | ⟨e1, e2, e3⟩
            · rcases c2 with ⟨f1, f2, f3, f4⟩ | ⟨f1, f2, f3⟩
              · omega
              · exact f1 e1
            · rcases c2 with ⟨f1, f2, f3, f4⟩ | ⟨f1, f2, f3⟩
              · exact e1 f1
              · omega
        · intro M' E' hR' ra'
          have hME : M' = M ∧ E' = E := by
            rcases hR.2.1 with ⟨e1, e2, e3, e4⟩ | ⟨e1, e2, e3⟩
            · rcases hR'.2.1 with ⟨f1, f2, f3, f4⟩ | ⟨f1, f2, f3⟩
              · omega
              · exact absurd e1 f1
            · rcases hR'.2.1 with ⟨f1, f2, f3, f4⟩ | ⟨f1, f2, f3⟩
              · exact absurd f1 e1
              · omega
          rw [hME.1, hME.2, show (n : Int) + (M : Int) = ((n + M : Nat) : Int) by omega]
          obtain ⟨r2, e2, h2'⟩ := hmono ra'
          have : r2 = rr := Option.some.inj (e2.symm.trans e1)
          rw [← this]; exact h2'
    show Ok (fX7_readFrame_b23 N e W H tx x1 _ _ n i 0 pl b nb na F d1) _
    unfold fX7_readFrame_b23
    refine Ok.ltp (by omega) (Ok.eqp rfl (Ok.bind (skipBlanks_ok hT he h4 hN) (fun r4 h4' => ?_)))
    rw [h4', ← hc]
    by_cases hi : i = 0
    · have hn0 := hi0 hi
      refine Ok.ltn (by omega) (Ok.mono (after b h4 hc.symm) (fun r hr => ?_))
      show Ok (fX12_frameRead_b9 N e ty _ _ n F b 0 wa ra s1) _
      unfold fX12_frameRead_b9
      exact Ok.eqp rfl (Ok.eqp (by omega) hr)
    · have hn0 := hi1 (by omega)
      have hcc : bkS tx e c = c := by rw [hc]; exact bk_idem
      refine Ok.ltp (by omega) (Ok.bind (isAt_ok hT he (by omega) (by omega) (by omega)) (fun r7 h7 => ?_))
      have mid : ∀ {P : Int × Int × Int × Int × (Nat → Int) → Prop}, (c < e ∧ tx c = 59 → Ok (fX12_frameRead_j176 N e ty n c 0 wa ra s1) P) → (¬ (c < e ∧ tx c = 59) → Ok (fX12_frameRead_j29 N e ty (fX12_frameRead_L9 N e ty (fX12_frameRead_j176 N e ty) m3) (fX12_frameRead_j176 N e ty) n F c 0 wa ra s1) P) → Ok (fX12_frameRead_L9 N e ty (fX12_frameRead_j176 N e ty) (m3 + 1) n F b 0 wa ra s1) P := by
        intro P y1 y2
        show Ok (fX12_frameRead_b9 N e ty _ _ n F b 0 wa ra s1) _
        unfold fX12_frameRead_b9
        refine Ok.eqp rfl (Ok.eqn (by omega) (Ok.bind (peek_ok hT he hN (by omega)) (fun r20 h20 => ?_)))
        obtain ⟨k1, k2⟩ := h20
        rw [← hc] at k1 k2
        rw [k1]
        rcases k2 with ⟨z1, z2, z3⟩ | ⟨z1, z2⟩
        · exact Ok.eq (by omega) (fun y => y1 ⟨z1, by omega⟩) (fun y => y2 (by omega))
        · exact Ok.eqn (by omega) (y2 (by omega))
      rcases h7 with ⟨h7, h8, h9, h10⟩ | ⟨h7, h8⟩
      · refine Ok.eqn (by omega) ?_
        unfold fX7_endFrame fX2_size fX7_fail
        have he9 : tx c = 59 := by omega
        refine Ok.bind (P := fun r => Ok (fX12_frameRead_L9 N e ty (fX12_frameRead_j176 N e ty) (m3 + 1) n F b 0 wa ra s1) (fun q => FrP tx e a0 cu sk se we W H F pl wa (r.1, r.2.1, r.2.2.1, nb, na, r.2.2.2, d1) q)) ?_ (fun r10 h10 => Ok.ret h10)
        refine Ok.bind (Ok.ret (P := fun r => r = ((W * H : Nat) : Int)) (by rw [Int.natCast_mul])) (fun r1 h1' => ?_)
        rw [h1']
        refine Ok.lt (by omega) (fun q => ?_) (fun q => ?_)
        · refine Ok.bind (Ok.ret (P := fun r => r = ((4 : Int), (c : Int))) rfl) (fun r3 h3' => ?_)
          subst h3'
          refine Ok.ret (mid (fun _ => ?_) (fun y => absurd ⟨h8, he9⟩ y))
          unfold fX12_frameRead_j176
          refine Ok.eqp rfl (Ok.bind (mdots_2 g0 g1) (fun r25 h25 => Ok.ltp (by omega) (Ok.bind fails_0 (fun r29 h29 => ?_))))
          subst h29
          refine Ok.gd (by omega) (Ok.gd (by omega) (Ok.ret ?_))
          exact Or.inl ⟨rfl, by show (1 : Int) ≤ 4; omega, by show (4 : Int) ≤ 10; omega, rfl, c, rfl, hce⟩
        · refine Ok.ret (mid (fun _ => ?_) (fun y => absurd ⟨h8, he9⟩ y))
          unfold fX12_frameRead_j176
          rw [(show ((2 : Int)).toNat = 2 from rfl), g2, show (F : Int) + 1 = ((F + 1 : Nat) : Int) by omega, show (c : Int) + 1 = ((c + 1 : Nat) : Int) by omega]
          refine Ok.eqp rfl (Ok.bind (mdots_2 g0 g1) (fun r25 h25 => Ok.ltn (by omega) (Ok.gd (by omega) (Ok.gd (by omega) (Ok.ret ?_)))))
          have hend := frame_end hv hs hF hd1 hs1 (fun p hp => hp1 p (by omega))
          exact Or.inr ⟨rfl, rfl, rfl, rfl, c, rfl, rfl, h8, he9, by omega, rfl, hend.1, hend.2⟩
      · exact Ok.eqp h7 (Ok.mono (after c hce hcc) (fun r hr => mid (fun y => absurd ⟨y.1, by omega, by omega⟩ h8) (fun _ => hr)))
theorem rframe_j {N e a : Nat} {d cu sk se we : Nat → Int} {W H F : Nat} {tx ty s : Nat → Int} {pl nb na wa ra x1 : Int} (hT : TpR e tx ty) (he : e ≤ 900) (ha : a ≤ e) (ha1 : 1 ≤ a) (hN : 1000 < N) (hv : RV d cu sk se we W H F) (hs : SR s d cu sk se we W H F) (hF : F < 24) : Ok (fX7_readFrame N e W H tx 0 pl a nb na F d x1) (fun r => Ok (fX12_frameRead N e ty a 0 wa ra s) (fun q => FrP tx e a cu sk se we W H F pl wa r q)) := by
  unfold fX7_readFrame fX12_frameRead
  rw [(show ((2 : Int)).toNat = 2 from rfl), hs.2.2.1]
  refine Ok.ltp (by omega) (Ok.mono (frame_loop hT he hN hv hs hF ha1 N N 0 0 a nb na ra d s (by omega) (by omega) (by omega) ha (by omega) (fun _ => rfl) (fun z => by omega) (fun j _ => rfl) (fun j _ => rfl) (fun p hp => by omega)) (fun r hr => Ok.gd (by omega) hr))
end QF
