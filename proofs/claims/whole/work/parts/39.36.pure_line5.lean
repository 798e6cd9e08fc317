/-! A line read, class and reference. -/
section QH
def LnP (e a : Nat) (pl wa : Int) (r : Int × Int × Int × Int × Int × Int × Int × Int × (Nat → Int) × (Nat → Int) × (Nat → Int) × (Nat → Int) × (Nat → Int) × (Nat → Int) × (Nat → Int)) (q : Int × Int × Int × Int × Int × Int × (Nat → Int)) : Prop := (r.1 = q.2.1 ∧ 1 ≤ r.1 ∧ r.1 ≤ 10 ∧ r.2.1 = q.2.2.1 ∧ ∃ a2 : Nat, r.2.2.1 = (a2 : Int) ∧ a2 ≤ e) ∨ (r.1 = 0 ∧ q.2.1 = 0 ∧ r.2.1 = pl ∧ q.2.2.1 = wa ∧ ∃ a2 W H F : Nat, r.2.2.1 = (a2 : Int) ∧ q.1 = (a2 : Int) ∧ a + 1 ≤ a2 ∧ a2 ≤ e ∧ r.2.2.2.2.2.1 = (W : Int) ∧ r.2.2.2.2.2.2.1 = (H : Int) ∧ r.2.2.2.2.2.2.2.1 = (F : Int) ∧ RV r.2.2.2.2.2.2.2.2.2.2.2.2.2.2 r.2.2.2.2.2.2.2.2.2.2.2.1 r.2.2.2.2.2.2.2.2.2.2.1 r.2.2.2.2.2.2.2.2.2.1 r.2.2.2.2.2.2.2.2.2.2.2.2.2.1 W H F ∧ SR q.2.2.2.2.2.2 r.2.2.2.2.2.2.2.2.2.2.2.2.2.2 r.2.2.2.2.2.2.2.2.2.2.2.1 r.2.2.2.2.2.2.2.2.2.2.1 r.2.2.2.2.2.2.2.2.2.1 r.2.2.2.2.2.2.2.2.2.2.2.2.2.1 W H F ∧ WtR r.2.2.2.2.2.2.2.2.2.2.2.2.1 q.2.2.2.2.1 ∧ ToR r.2.2.2.2.2.2.2.2.1 q.2.2.2.1 (r.2.2.2.2.2.2.2.2.2.1 5))
theorem m137_w {N e z : Nat} {ty s : Nat → Int} {a w wa sn sf ra : Int} {P : Int × Int × Int × Int × Int × Int × (Nat → Int) → Prop} (hw : 1 ≤ w ∧ w ≤ 10) (h : P (a, w, wa, sn, sf, ra, s)) : Ok (fX12_lineRead_j137 N e ty z a w wa sn sf ra s) P := by
  unfold fX12_lineRead_j137
  exact Ok.eqn (by omega) (Ok.ret h)
theorem m137_f {N e z a : Nat} {tx ty s : Nat → Int} {wa sn sf ra : Int} {q : Int × Int × Int × Int × Int × (Nat → Int)} {P : Int × Int × Int × Int × Int × Int × (Nat → Int) → Prop} (hT : TpR e tx ty) (he : e ≤ 900) (ha : a ≤ e) (hN : 1000 < N) (hq : fX12_behind N e ty ((a + llS tx e a : Nat) : Int) 0 wa sf ra s (z : Int) = some q) (hw : 1 ≤ q.2.1 ∧ q.2.1 ≤ 10) (h : P (q.1 + 1, q.2.1, q.2.2.1, oZ sn (lZ 1 (z : Int)), q.2.2.2.1, q.2.2.2.2.1, q.2.2.2.2.2)) : Ok (fX12_lineRead_j137 N e ty z a 0 wa sn sf ra s) P := by
  unfold fX12_lineRead_j137
  refine Ok.eqp rfl (Ok.bind (lettersHere_ok hT he ha hN) (fun r7 h7 => ?_))
  rw [h7, show (a : Int) + (llS tx e a : Int) = ((a + llS tx e a : Nat) : Int) by omega]
  refine Ok.bind (P := fun x => x = q) ⟨q, hq, rfl⟩ (fun r8 h8 => ?_)
  rw [h8]
  exact Ok.eqn (by omega) (Ok.ret h)
theorem m137_s {N e z a a2 : Nat} {tx ty s : Nat → Int} {wa sn sf ra : Int} {q : Int × Int × Int × Int × Int × (Nat → Int)} {P : Int × Int × Int × Int × Int × Int × (Nat → Int) → Prop} (hT : TpR e tx ty) (he : e ≤ 900) (ha : a ≤ e) (hN : 1000 < N) (hq : fX12_behind N e ty ((a + llS tx e a : Nat) : Int) 0 wa sf ra s (z : Int) = some q) (hw : q.2.1 = 0) (hp : q.2.2.1 = wa) (h2 : q.1 = (a2 : Int)) (ha2 : a2 ≤ e) (hy : bkS tx e a2 < e ∧ tx (bkS tx e a2) = 59 → P (((bkS tx e a2 + 1 : Nat) : Int), 0, wa, oZ sn (lZ 1 (z : Int)), q.2.2.2.1, q.2.2.2.2.1, q.2.2.2.2.2)) (hn : ¬ (bkS tx e a2 < e ∧ tx (bkS tx e a2) = 59) → P (((bkS tx e a2 + 1 : Nat) : Int), 1, (bkS tx e a2 : Int), oZ sn (lZ 1 (z : Int)), q.2.2.2.1, q.2.2.2.2.1, q.2.2.2.2.2)) : Ok (fX12_lineRead_j137 N e ty z a 0 wa sn sf ra s) P := by
  unfold fX12_lineRead_j137
  refine Ok.eqp rfl (Ok.bind (lettersHere_ok hT he ha hN) (fun r7 h7 => ?_))
  rw [h7, show (a : Int) + (llS tx e a : Int) = ((a + llS tx e a : Nat) : Int) by omega]
  refine Ok.bind (P := fun x => x = q) ⟨q, hq, rfl⟩ (fun r8 h8 => ?_)
  rw [h8, hw, hp, h2]
  refine Ok.eqp rfl (Ok.bind (peek_ok hT he hN (by omega)) (fun r10 h10 => ?_))
  obtain ⟨k1, k2⟩ := h10
  rw [k1, show (bkS tx e a2 : Int) + 1 = ((bkS tx e a2 + 1 : Nat) : Int) by omega]
  have no : ¬ (bkS tx e a2 < e ∧ tx (bkS tx e a2) = 59) → r10.1 ≠ 59 → -1000 ≤ r10.1 → r10.1 ≤ 1000 → Ok (if iZ r10.1 = iZ 59 then (some (((bkS tx e a2 + 1 : Nat) : Int), (0 : Int), wa, oZ sn (lZ 1 (z : Int)), q.2.2.2.1, q.2.2.2.2.1, q.2.2.2.2.2)) else ((fX12_fails N 0 wa 1 (bkS tx e a2 : Int)).bind fun r12 => (some (((bkS tx e a2 + 1 : Nat) : Int), r12.1, r12.2, oZ sn (lZ 1 (z : Int)), q.2.2.2.1, q.2.2.2.2.1, q.2.2.2.2.2)))) P := by
    intro y1 y2 y3 y4
    refine Ok.eqn (by omega) (Ok.bind fails_0 (fun r12 h12 => ?_))
    subst h12
    exact Ok.ret (hn y1)
  rcases k2 with ⟨z1, z2, z3⟩ | ⟨z1, z2⟩
  · by_cases y : r10.1 = 59
    · exact Ok.eqp y (Ok.ret (hy ⟨z1, by omega⟩))
    · exact no (by omega) y (by omega) (by omega)
  · exact no (by omega) (by omega) (by omega) (by omega)
theorem tail_j {N e a L z : Nat} {d cu sk se we : Nat → Int} {W H F : Nat} {tx ty s wt T : Nat → Int} {pl nb na wa sn sf ra : Int} (hT : TpR e tx ty) (he : e ≤ 900) (ha : a + L ≤ e) (hLl : L = llS tx e a) (hL : 3 ≤ L) (hN : 1000 < N) (hv : RV d cu sk se we W H F) (hs : SR s d cu sk se we W H F) (hw : WtR wt sf) (hz : z < 12) (h1 : z ≠ 1) (h0 : z = 0 → F = 0) (hto : ToR T (oZ sn (lZ 1 (z : Int))) (mdZ z (se 5))) (hk : ∀ {P : Int × Int × Int × Int × Int × Int × (Nat → Int) → Prop}, Ok (fX12_lineRead_j137 N e ty z a 0 wa sn sf ra s) P → Ok (fX12_lineRead N e ty a 0 wa sn sf ra s) P) : Ok ((fX7_readNumbers N z e tx F 0 pl ((a + L : Nat) : Int) nb na W H se sk cu wt we).bind fun r9 => (if iZ r9.1 = iZ 0 then ((fX7_readLineEnd N e tx r9.1 r9.2.1 r9.2.2.1).bind fun r11 => (some ((r11.1, r11.2.1, r11.2.2, r9.2.2.2.1, r9.2.2.2.2.1, r9.2.2.2.2.2.1, r9.2.2.2.2.2.2.1, (F : Int), T, r9.2.2.2.2.2.2.2.1, r9.2.2.2.2.2.2.2.2.1, r9.2.2.2.2.2.2.2.2.2.1, r9.2.2.2.2.2.2.2.2.2.2.1, r9.2.2.2.2.2.2.2.2.2.2.2, d)))) else (some ((r9.1, r9.2.1, r9.2.2.1, r9.2.2.2.1, r9.2.2.2.2.1, r9.2.2.2.2.2.1, r9.2.2.2.2.2.2.1, (F : Int), T, r9.2.2.2.2.2.2.2.1, r9.2.2.2.2.2.2.2.2.1, r9.2.2.2.2.2.2.2.2.2.1, r9.2.2.2.2.2.2.2.2.2.2.1, r9.2.2.2.2.2.2.2.2.2.2.2, d))))) (fun r => Ok (fX12_lineRead N e ty a 0 wa sn sf ra s) (fun q => LnP e a pl wa r q)) := by
  refine Ok.bind (behind_j (pl := pl) (nb := nb) (na := na) (wa := wa) (ra := ra) hT he ha hN hv hs hw hz h1 h0) (fun r9 h9 => ?_)
  obtain ⟨q8, e8, hB⟩ := h9
  rw [hLl] at e8
  rcases hB with ⟨b1, b2, b3, b4, a2, b5, b6⟩ | ⟨b1, b2, b3, b4, a2, W2, H2, b5, b6, b7, b8, b9, b10, b11, b12, b13, b14⟩
  · refine Ok.eqn (by omega) (Ok.ret (hk (m137_f hT he (by omega) hN e8 (by omega) ?_)))
    exact Or.inl ⟨b1, b2, b3, b4, a2, b5, b6⟩
  · refine Ok.eqp b1 ?_
    unfold fX7_readLineEnd fX7_fail
    rw [b5]
    refine Ok.bind (P := fun r11 => Ok (fX12_lineRead N e ty a 0 wa sn sf ra s) (fun q => LnP e a pl wa (r11.1, r11.2.1, r11.2.2, r9.2.2.2.1, r9.2.2.2.2.1, r9.2.2.2.2.2.1, r9.2.2.2.2.2.2.1, (F : Int), T, r9.2.2.2.2.2.2.2.1, r9.2.2.2.2.2.2.2.2.1, r9.2.2.2.2.2.2.2.2.2.1, r9.2.2.2.2.2.2.2.2.2.2.1, r9.2.2.2.2.2.2.2.2.2.2.2, d) q)) ?_ (fun r11 h11 => Ok.ret h11)
    have hbe := bkS_le (tx := tx) b8
    have hbg := bkS_ge tx e a2
    refine Ok.bind (skipBlanks_ok hT he b8 hN) (fun r1 h1' => ?_)
    rw [h1']
    refine Ok.bind (isAt_ok hT he (by omega) (by omega) (by omega)) (fun r2 h2 => ?_)
    rcases h2 with ⟨h2, k1, k2, k3⟩ | ⟨h2, k1⟩
    · refine Ok.eqn (by omega) (Ok.ret (hk (m137_s hT he (by omega) hN e8 b2 b4 b6 b8 (fun _ => ?_) (fun y => absurd ⟨k1, by omega⟩ y))))
      rw [show (bkS tx e a2 : Int) + 1 = ((bkS tx e a2 + 1 : Nat) : Int) by omega]
      refine Or.inr ⟨b1, rfl, b3, rfl, bkS tx e a2 + 1, W2, H2, F, rfl, rfl, by omega, by omega, b9, b10, rfl, b11, b12, b13, ?_⟩
      show ToR T (oZ sn (lZ 1 (z : Int))) (r9.2.2.2.2.2.2.2.1 5)
      rw [b14]; exact hto
    · refine Ok.eqp h2 (Ok.bind (Ok.ret (P := fun r => r = ((1 : Int), (bkS tx e a2 : Int))) rfl) (fun r4 h4 => ?_))
      subst h4
      refine Ok.ret (hk (m137_s hT he (by omega) hN e8 b2 b4 b6 b8 (fun y => absurd ⟨y.1, by omega, by omega⟩ k1) (fun y => ?_)))
      exact Or.inl ⟨rfl, by show (1 : Int) ≤ 1; omega, by show (1 : Int) ≤ 10; omega, rfl, bkS tx e a2, rfl, hbe⟩
theorem line_j {N e a : Nat} {d cu sk se we : Nat → Int} {W H F : Nat} {tx ty s wt to : Nat → Int} {pl nb na wa sn sf ra : Int} (hT : TpR e tx ty) (he : e ≤ 900) (ha : a < e) (hcc : bkS tx e a = a) (hN : 1000 < N) (hv : RV d cu sk se we W H F) (hs : SR s d cu sk se we W H F) (hw : WtR wt sf) (hto : ToR to sn (se 5)) : Ok (fX7_readLine N e tx 0 pl a nb na W H F to se sk cu wt we d) (fun r => Ok (fX12_lineRead N e ty a 0 wa sn sf ra s) (fun q => LnP e a pl wa r q)) := by
  have hbit := hto.bit
  have hto' := hto
  obtain ⟨sb, hb, t6, t0, t1, t2, t3, t4, t5⟩ := hto
  have hls := ll_spec tx e a
  have hF := hv.2.2.1
  have s2 := hs.2.2.1
  have s8 : s 8 = se 5 := hs.2.2.2.1 5 (by omega)
  have s8b : 0 ≤ s 8 ∧ s 8 ≤ 2 := by rw [s8]; exact hv.2.2.2.2.2.2.2.1 5 (by omega)
  unfold fX7_readLine fX7_fail
  have hrw := readWord_ok (N := N) hT he (show a ≤ e by omega) hN
  have hwc := wd_cases tx a (llS tx e a)
  obtain ⟨wv, hwv⟩ : ∃ wv, wv = wdI tx a (llS tx e a) := ⟨_, rfl⟩
  rw [← hwv] at hrw hwc
  refine Ok.bind hrw (fun r1 h1 => ?_)
  subst h1
  rcases hwc with hwd | ⟨z, hz, hwd, hL3⟩
  · have hneg : wv < 0 := by omega
    show Ok (if wv < 0 then _ else _) _
    rw [if_pos hneg]
    refine Ok.bind (Ok.ret (P := fun r => r = ((1 : Int), (a : Int))) rfl) (fun r3 h3 => ?_)
    subst h3
    refine Ok.ret ?_
    unfold fX12_lineRead
    refine Ok.bind (wordHere_ok hT he (by omega) hN) (fun r1 h1 => ?_)
    rw [hcc, ← hwv, hwd] at h1
    subst h1
    refine Ok.eqn (by show (-1 : Int) ≠ 1 ∧ (-2147483648 ≤ (-1 : Int) ∧ (-1 : Int) < 2147483648) ∧ -2147483648 ≤ (1 : Int) ∧ (1 : Int) < 2147483648; omega) (Ok.eqn (by show (-1 : Int) ≠ 3 ∧ (-2147483648 ≤ (-1 : Int) ∧ (-1 : Int) < 2147483648) ∧ -2147483648 ≤ (3 : Int) ∧ (3 : Int) < 2147483648; omega) (Ok.eqn (by show (-1 : Int) ≠ 10 ∧ (-2147483648 ≤ (-1 : Int) ∧ (-1 : Int) < 2147483648) ∧ -2147483648 ≤ (10 : Int) ∧ (10 : Int) < 2147483648; omega) (Ok.eqn (by show (-1 : Int) ≠ 11 ∧ (-2147483648 ≤ (-1 : Int) ∧ (-1 : Int) < 2147483648) ∧ -2147483648 ≤ (11 : Int) ∧ (11 : Int) < 2147483648; omega) ?_)))
    show Ok (fX12_lineRead_j37 N e ty (-1) a 1 a 0 wa sn sf ra s) _
    unfold fX12_lineRead_j37
    refine Ok.eqn (by omega) (Ok.eqn (by omega) ?_)
    unfold fX12_lineRead_j55
    refine Ok.eqp rfl (Ok.bind fails_0 (fun r5 h5 => ?_))
    subst h5
    unfold fX12_lineRead_j137
    refine Ok.eqn (by show (1 : Int) ≠ 0 ∧ (-2147483648 ≤ (1 : Int) ∧ (1 : Int) < 2147483648) ∧ -2147483648 ≤ (0 : Int) ∧ (0 : Int) < 2147483648; omega) (Ok.ret ?_)
    exact Or.inl ⟨rfl, by show (1 : Int) ≤ 1; omega, by show (1 : Int) ≤ 10; omega, rfl, a + llS tx e a, rfl, by omega⟩
  · have hout := ToR.out (F := F) hz hb t6 t0 t1 t2 t3 t4 t5
    show Ok (if wv < 0 then _ else gd (wv < 12) ((fX7_isOutOfPlace N wv.toNat F to).bind _)) _
    have hwd2 : wdI tx a (llS tx e a) = (z : Int) := by rw [← hwv]; exact hwd
    have head : ∀ {P : Int × Int × Int × Int × Int × Int × (Nat → Int) → Prop}, (ooP z F to → Ok (fX12_lineRead_j137 N e ty z a 1 a sn sf ra s) P) → (z = 1 → F = 24 → Ok (fX12_lineRead_j137 N e ty z a 5 a sn sf ra s) P) → (¬ ooP z F to → (z = 1 → F < 24) → Ok (fX12_lineRead_j137 N e ty z a 0 wa sn sf ra s) P) → Ok (fX12_lineRead N e ty a 0 wa sn sf ra s) P := by
      intro P y1 y2 y3
      refine mline_head hT he (by omega) hcc hN hz hwd2 hF s2 s8b hb (fun y => y1 (hout.mp ?_)) y2 (fun y => y3 (fun w => y ?_))
      · rw [s8] at y; exact y
      · rw [s8]; exact hout.mpr w
    clear hwv
    subst hwd
    rw [Int.toNat_natCast, if_neg (by omega)]
    refine Ok.gd (by omega) (Ok.bind (outp_ok hz hF hbit) (fun r5 h5 => ?_))
    rcases h5 with ⟨h5, hO⟩ | ⟨h5, hO⟩
    · refine Ok.eqn (by omega) (Ok.bind (Ok.ret (P := fun r => r = ((1 : Int), (a : Int))) rfl) (fun r17 h17 => ?_))
      subst h17
      have fin : ∀ (x : Int × Int × Int × Int × Int × Int × (Nat → Int)), x.2.1 = 1 → x.2.2.1 = (a : Int) → LnP e a pl wa ((1 : Int), (a : Int), ((a + llS tx e a : Nat) : Int), nb, na, (W : Int), (H : Int), (F : Int), to, se, sk, cu, wt, we, d) x := fun x x1 x2 => Or.inl ⟨x1.symm, by show (1 : Int) ≤ 1; omega, by show (1 : Int) ≤ 10; omega, x2.symm, a + llS tx e a, rfl, by omega⟩
      exact Ok.ret (head (fun _ => m137_w (by omega) (fin _ rfl rfl)) (fun y1 y2 => by
        exfalso
        rcases hO with ⟨w, -⟩ | ⟨w, -⟩
        · omega
        · rw [y1] at w; exact w once_v.2.1) (fun y => absurd hO y))
    · refine Ok.eqp h5 ?_
      by_cases z1 : z = 1
      · rw [if_pos z1]
        unfold fX7_readFrame fX7_fail
        have F24 : F = 24 ∨ F < 24 := by omega
        rcases F24 with F24 | F24
        · refine Ok.bind (Ok.ltn (by omega) (Ok.bind (Ok.ret (P := fun r => r = ((5 : Int), (a : Int))) rfl) (fun r11 h11 => Ok.ret (P := fun r => r = ((5 : Int), (a : Int), ((a + llS tx e a : Nat) : Int), nb, na, (F : Int), d)) (by subst h11; rfl)))) (fun r16 h16 => ?_)
          subst h16
          refine Ok.ret (head (fun y => absurd y hO) (fun _ _ => m137_w (by omega) ?_) (fun _ y => by have := y z1; omega))
          exact Or.inl ⟨rfl, by show (1 : Int) ≤ 5; omega, by show (5 : Int) ≤ 10; omega, rfl, a + llS tx e a, rfl, by omega⟩
        · have hfr := rframe_j (pl := pl) (nb := nb) (na := na) (wa := wa) (ra := ra) (x1 := (a : Int)) hT he (show a + llS tx e a ≤ e by omega) (by omega) hN hv hs F24
          unfold fX7_readFrame fX7_fail at hfr
          refine Ok.bind hfr (fun r16 h16 => Ok.ret ?_)
          obtain ⟨q7, e7, hFr⟩ := h16
          have e8 : fX12_behind N e ty ((a + llS tx e a : Nat) : Int) 0 wa sf ra s (z : Int) = some (q7.1, q7.2.1, q7.2.2.1, sf, q7.2.2.2.1, q7.2.2.2.2) := by
            unfold fX12_behind
            rw [ieq_n (by omega), ieq_p (by omega), e7]; rfl
          rcases hFr with ⟨b1, b2, b3, b4, a2, b5, b6⟩ | ⟨b1, b2, b3, b4, c2, b5, b6, b7, b8, b8b, b9, b10, b11⟩
          · refine head (fun y => absurd y hO) (fun _ y => by omega) (fun _ _ => m137_f hT he (by omega) hN e8 (by show 1 ≤ q7.2.1 ∧ q7.2.1 ≤ 10; omega) ?_)
            exact Or.inl ⟨b1, b2, b3, b4, a2, b5, b6⟩
          · have hst : bkS tx e c2 = c2 := bk_stay (fun _ => by omega)
            refine head (fun y => absurd y hO) (fun _ y => by omega) (fun _ _ => m137_s (a2 := c2) hT he (by omega) hN e8 b2 b4 b6 (by omega) (fun _ => ?_) (fun y => ?_))
            · rw [hst]
              have hto2 := hto'.put hz (fun y => by omega)
              rw [z1, once_v.2.1, if_pos rfl] at hto2
              rw [z1]
              have hcg : a + 1 ≤ c2 + 1 := by omega
              exact Or.inr ⟨b1, rfl, b3, rfl, c2 + 1, W, H, F + 1, b5, rfl, hcg, by omega, rfl, rfl, b9, b10, b11, hw, hto2⟩
            · rw [hst] at y; exact absurd ⟨b7, b8⟩ y
      · rw [if_neg z1]
        have h0 : z = 0 → F = 0 := by
          intro y
          rcases Nat.eq_zero_or_pos F with w | w
          · exact w
          · exact absurd (Or.inl ⟨y, w⟩) hO
        have hm : z = 8 ∨ z = 9 → to 5 = 0 := by
          intro y
          rcases hbit 5 (by omega) with w | w
          · exact w
          · refine absurd (Or.inr ?_) hO
            rcases y with rfl | rfl
            · rw [once_v.2.2.2.2.2.2.2.2.1]; exact ⟨by omega, w⟩
            · rw [once_v.2.2.2.2.2.2.2.2.2.1]; exact ⟨by omega, w⟩
        have hto2 := hto'.put hz hm
        have hob : onceZ z = -1 ∨ (0 ≤ onceZ z ∧ onceZ z < 7) := once_b ⟨z, hz⟩
        have hkk : ∀ {P : Int × Int × Int × Int × Int × Int × (Nat → Int) → Prop}, Ok (fX12_lineRead_j137 N e ty z a 0 wa sn sf ra s) P → Ok (fX12_lineRead N e ty a 0 wa sn sf ra s) P := fun h => head (fun y => absurd y hO) (fun y => absurd y z1) (fun _ _ => h)
        rcases hob with h | h
        · rw [if_pos h] at hto2
          exact Ok.eqp h (tail_j hT he (by omega) rfl hL3 hN hv hs hw hz z1 h0 hto2 hkk)
        · rw [if_neg (by omega)] at hto2
          rw [nZ_1]
          exact Ok.eqn (by omega) (Ok.gd (by omega) (tail_j hT he (by omega) rfl hL3 hN hv hs hw hz z1 h0 hto2 hkk))
end QH
