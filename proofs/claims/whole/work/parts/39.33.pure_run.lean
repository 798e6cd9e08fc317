/-! A frame's runs: one run. -/
section QE
theorem fuel1 {β : Type} {N : Nat} {f : Nat → Option β} {P : β → Prop} (hN : 0 < N) (h : ∀ m, Ok (f (m + 1)) P) : Ok (f N) P := by
  cases N with
  | zero => omega
  | succ m => exact h m
theorem bk_spec {tx : Nat → Int} {e a : Nat} (h : bkS tx e a < e) : tx (bkS tx e a) ≠ 32 := by
  unfold bkS at h ⊢
  have hs := (lsF_spec (bkG tx a) 1 (e - a)).2.2 (by omega)
  intro z
  have h0 : bkG tx a (lsF (bkG tx a) 1 (e - a)) = 0 := if_pos z
  omega
theorem bk_stay {tx : Nat → Int} {e b : Nat} (h : b < e → tx b ≠ 32) : bkS tx e b = b := by
  have h1 : lsF (bkG tx b) 1 (e - b) = 0 := lsF_eq (by omega) (fun x hx => by omega) (fun z => by
    show 1 ≤ (if tx b = 32 then (0 : Int) else 1)
    rw [if_neg (h (by omega))]; omega)
  unfold bkS
  rw [h1]; rfl
theorem bk_idem {tx : Nat → Int} {e a : Nat} : bkS tx e (bkS tx e a) = bkS tx e a := bk_stay bk_spec
def ruS (f : Nat → Int) (a M : Nat) (v : Int) : Nat → Int := fun j => if a ≤ j ∧ j < a + M then v else f j
theorem ruS_0 (f : Nat → Int) (a : Nat) (v : Int) : ruS f a 0 v = f := by
  funext j
  unfold ruS
  rw [if_neg (by omega)]
theorem ruS_s (f : Nat → Int) (a i : Nat) (v : Int) : uZ (ruS f a i v) (a + i) v = ruS f a (i + 1) v := by
  funext j
  by_cases z : j = a + i
  · rw [z, uZ_at]; unfold ruS; rw [if_pos (by omega)]
  · rw [uZ_ne z]
    unfold ruS
    by_cases w : a ≤ j ∧ j < a + i
    · rw [if_pos w, if_pos (by omega)]
    · rw [if_neg w, if_neg (by omega)]
theorem ruS_in {f : Nat → Int} {a M j : Nat} {v : Int} (h : a ≤ j ∧ j < a + M) : ruS f a M v j = v := if_pos h
theorem ruS_out {f : Nat → Int} {a M j : Nat} {v : Int} (h : ¬ (a ≤ j ∧ j < a + M)) : ruS f a M v j = f j := if_neg h
def rnL (tx : Nat → Int) (e c : Nat) : Prop := c < e ∧ 97 ≤ tx c ∧ tx c ≤ 112
def rnD (tx : Nat → Int) (e c : Nat) : Prop := bkS tx e (c + 1) < e ∧ 48 ≤ tx (bkS tx e (c + 1)) ∧ tx (bkS tx e (c + 1)) ≤ 57
def RnM (tx : Nat → Int) (e c M E : Nat) : Prop := (rnD tx e c ∧ nuC tx e (bkS tx e (c + 1)) 1 64 = 0 ∧ nuV tx e (bkS tx e (c + 1)) = (M : Int) ∧ E = nuE tx e (bkS tx e (c + 1))) ∨ (¬ rnD tx e c ∧ M = 1 ∧ E = bkS tx e (c + 1))
def RnF (tx : Nat → Int) (e S n c : Nat) (w p : Int) : Prop := (¬ rnL tx e c ∧ w = 1 ∧ p = (c : Int)) ∨ (rnL tx e c ∧ rnD tx e c ∧ nuC tx e (bkS tx e (c + 1)) 1 64 ≠ 0 ∧ w = nuC tx e (bkS tx e (c + 1)) 1 64 ∧ p = (bkS tx e (bkS tx e (c + 1)) : Int)) ∨ (rnL tx e c ∧ (∃ M E, RnM tx e c M E ∧ S < n + M) ∧ w = 3 ∧ p = (c : Int))
def RnS (tx : Nat → Int) (e S n c M E : Nat) : Prop := rnL tx e c ∧ RnM tx e c M E ∧ n + M ≤ S
theorem RnF.b {tx : Nat → Int} {e S n c : Nat} {w p : Int} (h : RnF tx e S n c w p) : 1 ≤ w ∧ w ≤ 3 := by
  rcases h with ⟨-, h, -⟩ | ⟨-, -, h0, h, -⟩ | ⟨-, -, h, -⟩
  · omega
  · have := nuC_b tx e (bkS tx e (c + 1)) 1 64; omega
  · omega
theorem RnM.b {tx : Nat → Int} {e c M E : Nat} (hc : c < e) (h : RnM tx e c M E) : 1 ≤ M ∧ M ≤ 64 ∧ c + 1 ≤ E ∧ E ≤ e := by
  have h1 := bkS_ge tx e (c + 1)
  have h2 := bkS_le (tx := tx) (show c + 1 ≤ e by omega)
  have h3 := nuE_le (tx := tx) h2
  rcases h with ⟨-, h0, hv, hE⟩ | ⟨-, hM, hE⟩
  · have := (nuC_0 h0).1
    omega
  · omega
theorem readRun_ok {N e F n c W H : Nat} {tx ty d : Nat → Int} {pl nb na : Int} (hT : TpR e tx ty) (he : e ≤ 900) (hc : c ≤ e) (hN : 1000 < N) (hF : F < 24) (hS : W * H ≤ 64) (hn : n ≤ W * H) : Ok (fX7_readRun N e tx W H F 0 pl c nb na d n) (fun r => (∃ w p, RnF tx e (W * H) n c w p ∧ r.2.1 = w ∧ r.2.2.1 = p ∧ ∃ a2 : Nat, r.2.2.2.1 = (a2 : Int) ∧ a2 ≤ e) ∨ (∃ M E, RnS tx e (W * H) n c M E ∧ r.1 = (M : Int) ∧ r.2.1 = 0 ∧ r.2.2.1 = pl ∧ r.2.2.2.1 = (E : Int) ∧ r.2.2.2.2.2.2 = ruS d (64 * F + n) M (tx c - 97))) := by
  unfold fX7_readRun
  have fin : ∀ (M E : Nat) (nb na : Int), rnL tx e c → RnM tx e c M E → Ok (fX7_readRun_j86 N e tx W H F n (c : Int) (tx c - 97) (M : Int) 0 pl (E : Int) nb na d) (fun r => (∃ w p, RnF tx e (W * H) n c w p ∧ r.2.1 = w ∧ r.2.2.1 = p ∧ ∃ a2 : Nat, r.2.2.2.1 = (a2 : Int) ∧ a2 ≤ e) ∨ (∃ M E, RnS tx e (W * H) n c M E ∧ r.1 = (M : Int) ∧ r.2.1 = 0 ∧ r.2.2.1 = pl ∧ r.2.2.2.1 = (E : Int) ∧ r.2.2.2.2.2.2 = ruS d (64 * F + n) M (tx c - 97))) := by
    intro M E nb na hL hM
    have hb := hM.b hL.1
    unfold fX7_readRun_j86 fX2_size fX7_fail
    refine Ok.bind (Ok.ret (P := fun r => r = ((W * H : Nat) : Int)) (by rw [Int.natCast_mul])) (fun r7 h7 => ?_)
    rw [h7]
    refine Ok.lt (by omega) (fun q => ?_) (fun q => ?_)
    · refine Ok.bind (Ok.ret (P := fun r => r = ((3 : Int), (c : Int))) rfl) (fun r11 h11 => ?_)
      subst h11
      exact Ok.ret (Or.inl ⟨3, (c : Int), Or.inr (Or.inr ⟨hL, ⟨M, E, hM, by omega⟩, rfl, rfl⟩), rfl, rfl, E, rfl, hb.2.2.2⟩)
    · refine Ok.loop (fun m i dd => fX7_readRun_L111 N e tx W H F n (fX7_readRun_j148 N e tx W H F n) m (tx c - 97) (M : Int) ((n + i : Nat) : Int) 0 pl (E : Int) nb na dd) M (fun i dd => dd = ruS d (64 * F + n) i (tx c - 97)) _ ?_ ?_ N 0 d (by omega) (by omega) (ruS_0 _ _ _).symm
      · intro m i dd hi hI ih
        show Ok (fX7_readRun_b111 N e tx W H F n _ _ (tx c - 97) (M : Int) ((n + i : Nat) : Int) 0 pl (E : Int) nb na dd) _
        unfold fX7_readRun_b111
        rw [show ((n + i : Nat) : Int) + 1 = ((n + (i + 1) : Nat) : Int) by omega, show ((F : Int) * 64 + ((n + i : Nat) : Int)).toNat = 64 * F + n + i by omega]
        refine Ok.ltp (by omega) (Ok.gd (by omega) (ih _ ?_))
        rw [hI]
        exact ruS_s _ _ _ _
      · intro m dd hI
        show Ok (fX7_readRun_b111 N e tx W H F n _ _ (tx c - 97) (M : Int) ((n + M : Nat) : Int) 0 pl (E : Int) nb na dd) _
        unfold fX7_readRun_b111 fX7_readRun_j148
        exact Ok.ltn (by omega) (Ok.ret (Or.inr ⟨M, E, ⟨hL, hM, by omega⟩, rfl, rfl, rfl, rfl, hI⟩))
  refine Ok.bind (isAt_ok hT he (by omega) (by omega) (by omega)) (fun r1 h1 => ?_)
  rcases h1 with ⟨h1, hL⟩ | ⟨h1, hL⟩
  · refine Ok.eqn (by omega) (Ok.gd (by omega) ?_)
    rw [show (c : Int) + 1 = ((c + 1 : Nat) : Int) by omega, Int.toNat_natCast]
    refine Ok.bind (skipBlanks_ok hT he (by omega) hN) (fun r4 h4 => ?_)
    rw [h4]
    have hbe := bkS_le (tx := tx) (show c + 1 ≤ e by omega)
    refine Ok.bind (isAt_ok hT he (by omega) (by omega) (by omega)) (fun r5 h5 => ?_)
    rcases h5 with ⟨h5, hD⟩ | ⟨h5, hD⟩
    · refine Ok.eqn (by omega) (Ok.bind (readNumber_ok hT he hbe hN (by omega) (by omega)) (fun r12 h12 => ?_))
      rcases h12 with ⟨c0, h12⟩ | ⟨c0, h12⟩
      · subst h12
        have hv := (nuC_0 c0).1
        obtain ⟨M, hM⟩ : ∃ M : Nat, nuV tx e (bkS tx e (c + 1)) = (M : Int) := ⟨(nuV tx e (bkS tx e (c + 1))).toNat, by omega⟩
        refine Ok.eqn (by show (1 : Int) ≠ 0 ∧ (-2147483648 ≤ (1 : Int) ∧ (1 : Int) < 2147483648) ∧ -2147483648 ≤ (0 : Int) ∧ (0 : Int) < 2147483648; omega) ?_
        show Ok (fX7_readRun_j86 N e tx W H F n (c : Int) (tx c - 97) (nuV tx e (bkS tx e (c + 1))) 0 pl (nuE tx e (bkS tx e (c + 1)) : Int) (nuV tx e (bkS tx e (c + 1))) (bkS tx e (bkS tx e (c + 1)) : Int) d) _
        rw [hM]
        exact fin M _ _ _ hL (Or.inl ⟨hD, c0, hM, rfl⟩)
      · subst h12
        exact Ok.eqp rfl (Ok.ret (Or.inl ⟨_, _, Or.inr (Or.inl ⟨hL, hD, c0, rfl, rfl⟩), rfl, rfl, _, rfl, (nuE_le hbe).1⟩))
    · exact Ok.eqp h5 (fin 1 _ _ _ hL (Or.inr ⟨hD, rfl, rfl⟩))
  · unfold fX7_fail
    refine Ok.eqp h1 (Ok.bind (Ok.ret (P := fun r => r = ((1 : Int), (c : Int))) rfl) (fun r14 h14 => ?_))
    subst h14
    exact Ok.ret (Or.inl ⟨1, (c : Int), Or.inl ⟨hL, rfl, rfl⟩, rfl, rfl, c, rfl, hc⟩)
/-! the reference's run -/
theorem mrun_put {N e F n M : Nat} {ty s : Nat → Int} {v sp wa ra : Int} {P : Int × Int × Int × Int × (Nat → Int) → Prop} {k : Int → Int → Int → Int → Int → Int → Int → (Nat → Int) → Option (Int × Int × Int × Int × (Nat → Int))} (hN : 1000 < N) (hF : F < 24) (hM : n + M ≤ 64) (h : Ok (k n F M sp 0 wa ra (ruS s (15 + 64 * F + n) M v)) P) : Ok (fX12_frameRead_L129 N e ty k N n F v M 0 sp 0 wa ra s) P := by
  refine Ok.loop (fun m i ss => fX12_frameRead_L129 N e ty k m n F v M (i : Int) sp 0 wa ra ss) M (fun i ss => ss = ruS s (15 + 64 * F + n) i v) _ ?_ ?_ N 0 s (by omega) (by omega) (ruS_0 _ _ _).symm
  · intro m i ss hi hI ih
    show Ok (fX12_frameRead_b129 N e ty _ _ n F v M (i : Int) sp 0 wa ra ss) _
    unfold fX12_frameRead_b129
    rw [show (15 + 64 * (F : Int) + (n : Int) + (i : Int)).toNat = 15 + 64 * F + n + i by omega, show (i : Int) + 1 = ((i + 1 : Nat) : Int) by omega]
    refine Ok.ltp (by omega) (Ok.eqp rfl (Ok.gd (by omega) (ih _ ?_)))
    rw [hI]
    exact ruS_s _ _ _ _
  · intro m ss hI
    show Ok (fX12_frameRead_b129 N e ty _ _ n F v M (M : Int) sp 0 wa ra ss) _
    unfold fX12_frameRead_b129
    rw [hI]
    exact Ok.ltn (by omega) h
theorem mrun_putw {N e : Nat} {ty s : Nat → Int} {v sp w wa ra n F M : Int} {P : Int × Int × Int × Int × (Nat → Int) → Prop} {k : Int → Int → Int → Int → Int → Int → Int → (Nat → Int) → Option (Int × Int × Int × Int × (Nat → Int))} (hN : 0 < N) (hM : 0 ≤ M ∧ M ≤ 1000) (hw : 1 ≤ w ∧ w ≤ 10) (h : Ok (k n F M sp w wa ra s) P) : Ok (fX12_frameRead_L129 N e ty k N n F v M 0 sp w wa ra s) P := by
  refine fuel1 (f := fun m => fX12_frameRead_L129 N e ty k m n F v M 0 sp w wa ra s) hN (fun m => ?_)
  show Ok (fX12_frameRead_b129 N e ty _ _ n F v M 0 sp w wa ra s) _
  unfold fX12_frameRead_b129
  exact Ok.lt (by omega) (fun _ => Ok.eqn (by omega) h) (fun _ => h)
theorem mdots_2 {N W H : Nat} {s : Nat → Int} (h0 : s 0 = (W : Int)) (h1 : s 1 = (H : Int)) : Ok (fX12_dots N s) (fun r => r = ((W * H : Nat) : Int)) := by
  unfold fX12_dots
  rw [(show ((0 : Int)).toNat = 0 from rfl), (show ((1 : Int)).toNat = 1 from rfl), h0, h1]
  exact Ok.gd (by omega) (Ok.gd (by omega) (Ok.ret (by rw [Int.natCast_mul])))
theorem mrun_j55 {N e F n c W H : Nat} {tx ty s : Nat → Int} {wa ra : Int} {P : Int × Int × Int × Int × (Nat → Int) → Prop} {rec : Int → Int → Int → Int → Int → Int → (Nat → Int) → Option (Int × Int × Int × Int × (Nat → Int))} {k : Int → Int → Int → Int → Int → (Nat → Int) → Option (Int × Int × Int × Int × (Nat → Int))} (hT : TpR e tx ty) (he : e ≤ 900) (hc : c ≤ e) (hcc : bkS tx e c = c) (hN : 1000 < N) (hF : F < 24) (hS : W * H ≤ 64) (h0 : s 0 = (W : Int)) (h1 : s 1 = (H : Int)) (hn : n ≤ W * H) (hL : rnL tx e c) (hf : ∀ w p n' sp ra', RnF tx e (W * H) n c w p → Ok (rec n' F sp w p ra' s) P) (hs : ∀ M E, RnS tx e (W * H) n c M E → ∀ ra', Ok (rec ((n : Int) + (M : Int)) F (E : Int) 0 wa ra' (ruS s (15 + 64 * F + n) M (tx c - 97))) P) : Ok (fX12_frameRead_j55 N e ty rec k n F c 0 wa ra s) P := by
  unfold fX12_frameRead_j55
  refine Ok.bind (peek_ok hT he hN (by omega)) (fun r7 h7 => ?_)
  obtain ⟨h7a, h7b⟩ := h7
  rw [hcc] at h7a h7b
  have h7c : r7.1 = tx c := by
    rcases h7b with z | z
    · exact z.2.1
    · have := hL.1; omega
  rw [h7a, h7c, show (c : Int) + 1 = ((c + 1 : Nat) : Int) by omega]
  have hbe := bkS_le (tx := tx) (show c + 1 ≤ e by have := hL.1; omega)
  refine Ok.bind (peek_ok hT he hN (by have := hL.1; omega)) (fun r8 h8 => ?_)
  obtain ⟨h8a, h8b⟩ := h8
  have hrb : -2147483648 ≤ r8.1 ∧ r8.1 < 2147483648 := by
    rcases h8b with z | z
    · omega
    · omega
  rw [h8a]
  have fin : ∀ (M E : Nat) (ra' : Int), RnM tx e c M E → Ok (fX12_frameRead_j100 N e ty rec k n F c (tx c - 97) (M : Int) (E : Int) 0 wa ra' s) P := by
    intro M E ra' hM
    have hb := hM.b hL.1
    unfold fX12_frameRead_j100
    refine Ok.eqp rfl (Ok.bind (mdots_2 h0 h1) (fun r15 h15 => ?_))
    rw [h15]
    refine Ok.lt (by omega) (fun q => ?_) (fun q => ?_)
    · refine Ok.bind fails_0 (fun r17 h17 => ?_)
      subst h17
      refine mrun_putw (by omega) (by omega) (by show (1 : Int) ≤ 3 ∧ (3 : Int) ≤ 10; omega) ?_
      unfold fX12_frameRead_j168
      exact hf 3 (c : Int) _ _ _ (Or.inr (Or.inr ⟨hL, ⟨M, E, hM, by omega⟩, rfl, rfl⟩))
    · refine mrun_put hN hF (by omega) ?_
      unfold fX12_frameRead_j168
      exact hs M E ⟨hL, hM, by omega⟩ ra'
  have hdD : (48 ≤ r8.1 ∧ r8.1 ≤ 57) ↔ rnD tx e c := by
    unfold rnD
    rcases h8b with ⟨z1, z2, z3⟩ | ⟨z1, z2⟩
    · rw [z2]; exact ⟨fun y => ⟨z1, y⟩, fun y => y.2⟩
    · exact ⟨fun y => by omega, fun y => by omega⟩
  refine Ok.bind (isDigit_ok hrb) (fun r9 h9 => ?_)
  rcases h9 with ⟨y1, y2⟩ | ⟨y1, y2⟩
  · have hD := hdD.mp y2
    refine Ok.eqn (by omega) (Ok.bind (numeral_ok hT he hbe hN (by omega) (by omega)) (fun r18 h18 => ?_))
    rcases h18 with ⟨c0, h18⟩ | ⟨c0, g1, g2, g3, g4⟩
    · subst h18
      have hv := (nuC_0 c0).1
      obtain ⟨M, hM⟩ : ∃ M : Nat, nuV tx e (bkS tx e (c + 1)) = (M : Int) := ⟨(nuV tx e (bkS tx e (c + 1))).toNat, by omega⟩
      show Ok (fX12_frameRead_j100 N e ty rec k n F c (tx c - 97) (nuV tx e (bkS tx e (c + 1))) (nuE tx e (bkS tx e (c + 1)) : Int) 0 wa (bkS tx e (bkS tx e (c + 1)) : Int) s) P
      rw [hM]
      exact fin M _ _ (Or.inl ⟨hD, c0, hM, rfl⟩)
    · have hcb := nuC_b tx e (bkS tx e (c + 1)) 1 64
      rw [g1, g2, g3, g4]
      unfold fX12_frameRead_j100
      refine Ok.eqn (by omega) (mrun_putw (by omega) (by omega) (by omega) ?_)
      unfold fX12_frameRead_j168
      exact hf _ _ _ _ _ (Or.inr (Or.inl ⟨hL, hD, c0, rfl, rfl⟩))
  · exact Ok.eqp y1 (fin 1 _ _ (Or.inr ⟨fun z => y2 (hdD.mpr z), rfl, rfl⟩))
theorem mrun_ok {N e F n b c W H : Nat} {tx ty s : Nat → Int} {wa ra : Int} {P : Int × Int × Int × Int × (Nat → Int) → Prop} {rec : Int → Int → Int → Int → Int → Int → (Nat → Int) → Option (Int × Int × Int × Int × (Nat → Int))} {k : Int → Int → Int → Int → Int → (Nat → Int) → Option (Int × Int × Int × Int × (Nat → Int))} (hT : TpR e tx ty) (he : e ≤ 900) (hb : b ≤ e) (hc : bkS tx e b = c) (hN : 1000 < N) (hF : F < 24) (hS : W * H ≤ 64) (h0 : s 0 = (W : Int)) (h1 : s 1 = (H : Int)) (hn : n ≤ W * H) (hf : ∀ w p n' sp ra', RnF tx e (W * H) n c w p → Ok (rec n' F sp w p ra' s) P) (hs : ∀ M E, RnS tx e (W * H) n c M E → ∀ ra', Ok (rec ((n : Int) + (M : Int)) F (E : Int) 0 wa ra' (ruS s (15 + 64 * F + n) M (tx c - 97))) P) : Ok (fX12_frameRead_j29 N e ty rec k n F b 0 wa ra s) P := by
  have hce : c ≤ e := by rw [← hc]; exact bkS_le hb
  have hcc : bkS tx e c = c := by rw [← hc]; exact bk_idem
  unfold fX12_frameRead_j29
  refine Ok.bind (peek_ok hT he hN (by omega)) (fun r4 h4 => ?_)
  obtain ⟨h4a, h4b⟩ := h4
  rw [hc] at h4a h4b
  rw [h4a]
  have hiff : (97 ≤ r4.1 ∧ r4.1 ≤ 112) ↔ rnL tx e c := by
    unfold rnL
    rcases h4b with ⟨z1, z2, z3⟩ | ⟨z1, z2⟩
    · rw [z2]; exact ⟨fun y => ⟨z1, y⟩, fun y => y.2⟩
    · exact ⟨fun y => by omega, fun y => by omega⟩
  have hrb : -2147483648 ≤ r4.1 ∧ r4.1 < 2147483648 := by
    rcases h4b with z | z
    · omega
    · omega
  by_cases hL : rnL tx e c
  · exact Ok.bind (isIn_t (by omega) (hiff.mpr hL)) (fun r5 h5 => Ok.eqn (by omega) (mrun_j55 hT he hce hcc hN hF hS h0 h1 hn hL hf hs))
  · refine Ok.bind (isIn_f (by omega) (fun z => hL (hiff.mp z))) (fun r5 h5 => Ok.eqp h5 (Ok.bind fails_0 (fun r19 h19 => ?_)))
    subst h19
    unfold fX12_frameRead_j55
    refine Ok.bind (peek_ok hT he hN (by omega)) (fun r7 h7 => ?_)
    obtain ⟨h7a, h7b⟩ := h7
    rw [hcc] at h7a
    rw [h7a, show (c : Int) + 1 = ((c + 1 : Nat) : Int) by omega]
    refine Ok.bind (peek_ok hT he hN (by omega)) (fun r8 h8 => ?_)
    have h8c : -2147483648 ≤ r8.1 ∧ r8.1 < 2147483648 := by
      rcases h8.2 with z | z
      · omega
      · omega
    have fin : ∀ v sp ra' : Int, Ok (fX12_frameRead_j100 N e ty rec k n F c v 1 sp 1 (c : Int) ra' s) P := by
      intro v sp ra'
      unfold fX12_frameRead_j100
      refine Ok.eqn (by omega) (mrun_putw (by omega) (by omega) (by omega) ?_)
      unfold fX12_frameRead_j168
      exact hf 1 (c : Int) _ _ _ (Or.inl ⟨hL, rfl, rfl⟩)
    refine Ok.bind (isDigit_ok h8c) (fun r9 h9 => ?_)
    rcases h9 with ⟨y1, -⟩ | ⟨y1, -⟩
    · refine Ok.eqn (by omega) (Ok.bind (numeral_w (by show (1 : Int) ≠ 0 ∧ -100 ≤ (1 : Int) ∧ (1 : Int) ≤ 100; omega)) (fun r18 h18 => ?_))
      subst h18
      exact fin _ _ _
    · exact Ok.eqp y1 (fin _ _ _)
end QE
