/-! Numbers read. -/
section PX
def dgG (tx : Nat → Int) (b : Nat) : Nat → Int := fun j => if 48 ≤ tx (b + j) ∧ tx (b + j) ≤ 57 then 0 else 1
def dlS (tx : Nat → Int) (e b : Nat) : Nat := lsF (dgG tx b) 1 (e - b)
def nvS (tx : Nat → Int) (b : Nat) : Nat → Int
  | 0 => 0
  | k + 1 => nvS tx b k * 10 + tx (b + k) - 48
theorem nvS_succ (tx : Nat → Int) (b k : Nat) : nvS tx b (k + 1) = nvS tx b k * 10 + tx (b + k) - 48 := rfl
def mi3 (k : Nat) : Nat := if k < 3 then k else 3
theorem mi3_b (k : Nat) : mi3 k ≤ 3 ∧ mi3 k ≤ k ∧ (k < 3 → mi3 k = k) ∧ (3 ≤ k → mi3 k = 3) := by
  unfold mi3
  by_cases q : k < 3
  · rw [if_pos q]; omega
  · rw [if_neg q]; omega
def nuE (tx : Nat → Int) (e a : Nat) : Nat := bkS tx e a + dlS tx e (bkS tx e a)
def nuV (tx : Nat → Int) (e a : Nat) : Int := nvS tx (bkS tx e a) (mi3 (dlS tx e (bkS tx e a)))
def nuC (tx : Nat → Int) (e a : Nat) (lo hi : Int) : Int := if dlS tx e (bkS tx e a) = 0 then 1 else if 3 < dlS tx e (bkS tx e a) ∨ nuV tx e a < lo ∨ hi < nuV tx e a then 2 else 0
theorem dl_spec (tx : Nat → Int) (e b : Nat) : dlS tx e b ≤ e - b ∧ (∀ j, j < dlS tx e b → 48 ≤ tx (b + j) ∧ tx (b + j) ≤ 57) ∧ (dlS tx e b < e - b → ¬ (48 ≤ tx (b + dlS tx e b) ∧ tx (b + dlS tx e b) ≤ 57)) := by
  have h := lsF_spec (dgG tx b) 1 (e - b)
  refine ⟨h.1, ?_, ?_⟩
  · intro j hj
    have h1 := h.2.1 j hj
    unfold dgG at h1
    rcases Classical.em (48 ≤ tx (b + j) ∧ tx (b + j) ≤ 57) with z | z
    · exact z
    · rw [if_neg z] at h1; omega
  · intro hlt z
    have h1 : 1 ≤ dgG tx b (dlS tx e b) := h.2.2 hlt
    have h0 : dgG tx b (dlS tx e b) = 0 := if_pos z
    omega
theorem nv_b {tx : Nat → Int} {b n : Nat} (h : ∀ j, j < n → 48 ≤ tx (b + j) ∧ tx (b + j) ≤ 57) : ∀ k, k ≤ n → k ≤ 3 → 0 ≤ nvS tx b k ∧ (k = 0 → nvS tx b k = 0) ∧ (k = 1 → nvS tx b k ≤ 9) ∧ (k = 2 → nvS tx b k ≤ 99) ∧ nvS tx b k ≤ 999 := by
  intro k
  induction k with
  | zero => intro _ _; exact ⟨Int.le_refl _, fun _ => rfl, fun z => by omega, fun z => by omega, by show (0 : Int) ≤ 999; omega⟩
  | succ k ih =>
    intro h1 h2
    have i := ih (by omega) (by omega)
    have d := h k (by omega)
    rw [nvS_succ]
    refine ⟨by omega, by omega, ?_, ?_, ?_⟩
    · intro z
      have := i.2.1 (by omega); omega
    · intro z
      have := i.2.2.1 (by omega); omega
    · have h3 : k = 0 ∨ k = 1 ∨ k = 2 := by omega
      rcases h3 with z | z | z
      · have := i.2.1 z; omega
      · have := i.2.2.1 z; omega
      · have := i.2.2.2.1 z; omega
theorem nuV_b (tx : Nat → Int) (e a : Nat) : 0 ≤ nuV tx e a ∧ nuV tx e a ≤ 999 := by
  have hm := mi3_b (dlS tx e (bkS tx e a))
  have := nv_b (dl_spec tx e (bkS tx e a)).2.1 (mi3 (dlS tx e (bkS tx e a))) hm.2.1 hm.1
  exact ⟨this.1, this.2.2.2.2⟩
theorem nuC_0 {tx : Nat → Int} {e a : Nat} {lo hi : Int} (h : nuC tx e a lo hi = 0) : (lo ≤ nuV tx e a ∧ nuV tx e a ≤ hi) ∧ bkS tx e a < nuE tx e a := by
  unfold nuC at h
  by_cases z : dlS tx e (bkS tx e a) = 0
  · rw [if_pos z] at h; omega
  · rw [if_neg z] at h
    by_cases w : 3 < dlS tx e (bkS tx e a) ∨ nuV tx e a < lo ∨ hi < nuV tx e a
    · rw [if_pos w] at h; omega
    · unfold nuE; omega
theorem nuC_b (tx : Nat → Int) (e a : Nat) (lo hi : Int) : nuC tx e a lo hi = 0 ∨ nuC tx e a lo hi = 1 ∨ nuC tx e a lo hi = 2 := by
  unfold nuC
  by_cases z : dlS tx e (bkS tx e a) = 0
  · rw [if_pos z]; omega
  · rw [if_neg z]
    by_cases w : 3 < dlS tx e (bkS tx e a) ∨ nuV tx e a < lo ∨ hi < nuV tx e a
    · rw [if_pos w]; omega
    · rw [if_neg w]; omega
theorem nuE_le {tx : Nat → Int} {e a : Nat} (h : a ≤ e) : nuE tx e a ≤ e ∧ a ≤ nuE tx e a := by
  have h1 := (dl_spec tx e (bkS tx e a)).1
  have h2 := bkS_le (tx := tx) h
  have h3 := bkS_ge tx e a
  unfold nuE
  omega
theorem readNumber_ok {N e a : Nat} {tx ty : Nat → Int} {lo hi pl nb na : Int} (hT : TpR e tx ty) (he : e ≤ 900) (ha : a ≤ e) (hN : 1000 < N) (hl : 0 ≤ lo ∧ lo ≤ 1000) (hh : -1 ≤ hi ∧ hi ≤ 1000) : Ok (fX7_readNumber N e tx 0 pl a nb na lo hi) (fun r => (nuC tx e a lo hi = 0 ∧ r = (1, 0, pl, (nuE tx e a : Int), nuV tx e a, (bkS tx e a : Int))) ∨ (nuC tx e a lo hi ≠ 0 ∧ r = (0, nuC tx e a lo hi, (bkS tx e a : Int), (nuE tx e a : Int), nuV tx e a, (bkS tx e a : Int)))) := by
  unfold fX7_readNumber
  refine Ok.bind (skipBlanks_ok hT he ha hN) (fun r1 h1 => ?_)
  rw [h1]
  have hbe := bkS_le (tx := tx) ha
  obtain ⟨b, hb⟩ : ∃ b, b = bkS tx e a := ⟨_, rfl⟩
  rw [← hb] at hbe ⊢
  have hds := dl_spec tx e b
  obtain ⟨D, hD⟩ : ∃ D, D = dlS tx e b := ⟨_, rfl⟩
  rw [← hD] at hds
  have hnb : ∀ k, k ≤ D → k ≤ 3 → 0 ≤ nvS tx b k ∧ nvS tx b k ≤ 999 := fun k g1 g2 => by
    have := nv_b hds.2.1 k g1 g2
    exact ⟨this.1, this.2.2.2.2⟩
  have hm := mi3_b D
  have fin : Ok (fX7_readNumber_j89 N e tx lo hi 0 pl ((b + D : Nat) : Int) (nvS tx b (mi3 D)) (b : Int)) (fun r => (nuC tx e a lo hi = 0 ∧ r = (1, 0, pl, (nuE tx e a : Int), nuV tx e a, (b : Int))) ∨ (nuC tx e a lo hi ≠ 0 ∧ r = (0, nuC tx e a lo hi, (b : Int), (nuE tx e a : Int), nuV tx e a, (b : Int)))) := by
    have eE : nuE tx e a = b + D := by unfold nuE; rw [← hb, ← hD]
    have eV : nuV tx e a = nvS tx b (mi3 D) := by unfold nuV; rw [← hb, ← hD]
    have eC : nuC tx e a lo hi = if D = 0 then 1 else if 3 < D ∨ nvS tx b (mi3 D) < lo ∨ hi < nvS tx b (mi3 D) then 2 else 0 := by unfold nuC; rw [← hb, ← hD, eV]
    have hvb := hnb (mi3 D) hm.2.1 hm.1
    rw [eE, eV]
    unfold fX7_readNumber_j89 fX7_fail
    refine Ok.eq (by omega) (fun q => ?_) (fun q => ?_)
    · have e1 : nuC tx e a lo hi = 1 := by rw [eC, if_pos (by omega)]
      refine Ok.bind (Ok.ret (P := fun r => r = ((1 : Int), ((b + D : Nat) : Int))) rfl) (fun r hr => ?_)
      subst hr
      refine Ok.eqn (by show (1 : Int) ≠ 0 ∧ (-2147483648 ≤ (1 : Int) ∧ (1 : Int) < 2147483648) ∧ -2147483648 ≤ (0 : Int) ∧ (0 : Int) < 2147483648; omega) (Ok.ret (Or.inr ⟨by omega, ?_⟩))
      rw [e1, show b + D = b by omega]
    · have two : 3 < D ∨ nvS tx b (mi3 D) < lo ∨ hi < nvS tx b (mi3 D) → Ok ((some ((2 : Int), (b : Int))).bind fun r9 => (if iZ r9.1 = iZ 0 then (some ((1 : Int), r9.1, r9.2, ((b + D : Nat) : Int), nvS tx b (mi3 D), (b : Int))) else (some ((0, r9.1, r9.2, ((b + D : Nat) : Int), nvS tx b (mi3 D), (b : Int)))))) (fun r => (nuC tx e a lo hi = 0 ∧ r = (1, 0, pl, ((b + D : Nat) : Int), nvS tx b (mi3 D), (b : Int))) ∨ (nuC tx e a lo hi ≠ 0 ∧ r = (0, nuC tx e a lo hi, (b : Int), ((b + D : Nat) : Int), nvS tx b (mi3 D), (b : Int)))) := by
        intro hw
        have e1 : nuC tx e a lo hi = 2 := by rw [eC, if_neg (by omega), if_pos hw]
        show Ok (if iZ 2 = iZ 0 then (some ((1 : Int), (2 : Int), (b : Int), ((b + D : Nat) : Int), nvS tx b (mi3 D), (b : Int))) else (some ((0, 2, (b : Int), ((b + D : Nat) : Int), nvS tx b (mi3 D), (b : Int))))) _
        refine Ok.eqn (by omega) (Ok.ret (Or.inr ⟨by omega, ?_⟩))
        rw [e1]
      refine Ok.lt (by omega) (fun q2 => two (by omega)) (fun q2 => ?_)
      refine Ok.lt (by omega) (fun q3 => two (by omega)) (fun q3 => ?_)
      refine Ok.lt (by omega) (fun q4 => two (by omega)) (fun q4 => ?_)
      have e1 : nuC tx e a lo hi = 0 := by rw [eC, if_neg (by omega), if_neg (by omega)]
      exact Ok.eqp rfl (Ok.ret (Or.inl ⟨e1, rfl⟩))
  refine Ok.loop (fun m i (_ : Unit) => fX7_readNumber_L17 N e tx lo hi (fX7_readNumber_j89 N e tx lo hi) m 0 pl ((b + i : Nat) : Int) (nvS tx b (mi3 i)) (b : Int)) D (fun _ _ => True) _ ?_ ?_ N 0 () (by omega) (by omega) trivial
  · intro m i _ hli _ ih
    show Ok (fX7_readNumber_b17 N e tx lo hi _ _ 0 pl ((b + i : Nat) : Int) (nvS tx b (mi3 i)) (b : Int)) _
    unfold fX7_readNumber_b17
    have hdi := hds.2.1 i hli
    rw [Int.toNat_natCast]
    refine Ok.ltp (by omega) (Ok.bind (isAt_ok hT he (by omega) (by omega) (by omega)) (fun r3 h3 => ?_))
    have h3' : r3 = 1 := by
      rcases h3 with z | z
      · exact z.1
      · exact absurd ⟨by omega, by omega, by omega⟩ z.2
    rw [show ((b + i : Nat) : Int) + 1 = ((b + (i + 1) : Nat) : Int) by omega]
    refine Ok.eqn (by omega) (Ok.lt (by omega) (fun q => Ok.gd (by omega) ?_) (fun q => ?_))
    · have g1 := mi3_b i
      have g2 := mi3_b (i + 1)
      have hn := ih () trivial
      rw [(show mi3 (i + 1) = i + 1 by
        rcases Nat.lt_or_ge (i + 1) 3 with z | z
        · exact g2.2.2.1 z
        · rw [g2.2.2.2 z]; omega), nvS_succ] at hn
      rw [g1.2.2.1 (by omega)]
      exact hn
    · have g1 := mi3_b i
      have g2 := mi3_b (i + 1)
      have hn := ih () trivial
      rw [g2.2.2.2 (by omega)] at hn
      rw [g1.2.2.2 (by omega)]
      exact hn
  · intro m _ _
    show Ok (fX7_readNumber_b17 N e tx lo hi _ _ 0 pl ((b + D : Nat) : Int) (nvS tx b (mi3 D)) (b : Int)) _
    unfold fX7_readNumber_b17
    refine Ok.lt (by omega) (fun q => ?_) (fun q => fin)
    refine Ok.bind (isAt_ok hT he (by omega) (by omega) (by omega)) (fun r3 h3 => ?_)
    have h3' : r3 = 0 := by
      rcases h3 with z | z
      · exact absurd ⟨z.2.2.1, z.2.2.2⟩ (hds.2.2 (by omega))
      · exact z.1
    exact Ok.eqp h3' fin
end PX
