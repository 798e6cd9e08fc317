/-! Words read. -/
section PZ
theorem len_r : ∀ z : Fin 13, rZ (lenZ z.val) 0 = lenZ z.val := by decide +kernel
theorem chr_r : ∀ z : Fin 13, ∀ i : Fin 72, (i.val : Int) < lenZ z.val → cZ (aZ (bytZ z.val i.val) 255) = bytZ z.val i.val ∧ 0 ≤ bytZ z.val i.val ∧ bytZ z.val i.val < 128 := by decide +kernel
theorem len_b : ∀ z : Fin 13, 3 ≤ lenZ z.val ∧ lenZ z.val ≤ 72 := by decide +kernel
theorem len_w : ∀ z : Fin 12, 3 ≤ lenZ z.val ∧ lenZ z.val ≤ 6 := by decide +kernel
def psT (z : Nat) : Nat := ([1, 6, 12, 19, 26, 32, 38, 43, 50, 57, 63, 67, 72] : List Nat).getD z 0
theorem ps_all : ∀ z : Fin 12, (psT z.val : Int) + lenZ z.val + 1 = (psT (z.val + 1) : Int) ∧ bytZ 12 (psT z.val + (lenZ z.val).toNat) = 32 ∧ psT z.val ≤ 67 ∧ psT (z.val + 1) ≤ 72 := by decide +kernel
theorem ps_chr : ∀ z : Fin 12, ∀ i : Fin 6, (i.val : Int) < lenZ z.val → bytZ 12 (psT z.val + i.val) = bytZ z.val i.val ∧ bytZ z.val i.val ≠ 32 := by decide +kernel
theorem length_ok {N z : Nat} (hz : z < 13) : Ok (fJ0_length_8abf5 N z) (fun r => r = lenZ z) := by
  unfold fJ0_length_8abf5 fJ0_coder_7d493
  refine Ok.bind (Ok.eqn (by omega) (Ok.ret (P := fun r => r = 0) rfl)) (fun r1 h1 => ?_)
  rw [h1]
  exact Ok.ret (len_r ⟨z, hz⟩)
theorem charAt_ok {N z i : Nat} (hz : z < 13) (hi : (i : Int) < lenZ z) : Ok (fJ0_charAt_5068e N z i) (fun r => r = bytZ z i ∧ 0 ≤ r ∧ r < 128) := by
  have hl := len_b ⟨z, hz⟩
  have hc := chr_r ⟨z, hz⟩ ⟨i, by have : lenZ z ≤ 72 := hl.2; omega⟩ hi
  have hc1 : cZ (aZ (bytZ z i) 255) = bytZ z i := hc.1
  have hc2 : 0 ≤ bytZ z i ∧ bytZ z i < 128 := hc.2
  have hl2 : lenZ z ≤ 72 := hl.2
  unfold fJ0_charAt_5068e fJ0_isLatin1_aae02 fJ1_charAt_3b067 fJ0_checkIndex_df160 fJ3_checkIndex_8e157
  refine Ok.bind (Ok.eqn (by omega) (Ok.eqp rfl (Ok.ret (P := fun r => r = 1) rfl))) (fun r1 h1 => Ok.eqn (by omega) ?_)
  refine Ok.bind (P := fun r => r = bytZ z i) (Ok.bind (P := fun _ => True) (Ok.bind (P := fun _ => True) (Ok.ltn (by omega) (Ok.ltp (by omega) (Ok.ret trivial))) (fun _ _ => Ok.ret trivial)) (fun _ _ => ?_)) (fun r3 h3 => Ok.gd (by omega) (Ok.ret ⟨h3, by omega, by omega⟩))
  rw [Int.toNat_natCast, hc1]
  exact Ok.gd (by omega) (Ok.gd (by omega) (Ok.ret rfl))
/-! letters -/
def ltG (tx : Nat → Int) (b : Nat) : Nat → Int := fun j => if 97 ≤ tx (b + j) ∧ tx (b + j) ≤ 122 then 0 else 1
def llS (tx : Nat → Int) (e b : Nat) : Nat := lsF (ltG tx b) 1 (e - b)
theorem ll_spec (tx : Nat → Int) (e b : Nat) : llS tx e b ≤ e - b ∧ (∀ j, j < llS tx e b → 97 ≤ tx (b + j) ∧ tx (b + j) ≤ 122) ∧ (llS tx e b < e - b → ¬ (97 ≤ tx (b + llS tx e b) ∧ tx (b + llS tx e b) ≤ 122)) := by
  have h := lsF_spec (ltG tx b) 1 (e - b)
  refine ⟨h.1, ?_, ?_⟩
  · intro j hj
    have h1 := h.2.1 j hj
    unfold ltG at h1
    rcases Classical.em (97 ≤ tx (b + j) ∧ tx (b + j) ≤ 122) with z | z
    · exact z
    · rw [if_neg z] at h1; omega
  · intro hlt z
    have h1 : 1 ≤ ltG tx b (llS tx e b) := h.2.2 hlt
    have h0 : ltG tx b (llS tx e b) = 0 := if_pos z
    omega
def wmP (tx : Nat → Int) (a L z : Nat) : Prop := (L : Int) = lenZ z ∧ ∀ i, i < L → tx (a + i) = bytZ z i
noncomputable def wmG (tx : Nat → Int) (a L : Nat) : Nat → Int := fun z => if pB (wmP tx a L z) then 1 else 0
theorem wmG_t {tx : Nat → Int} {a L z : Nat} (h : wmP tx a L z) : wmG tx a L z = 1 := by
  unfold wmG; rw [pB_t h]; rfl
theorem wmG_f {tx : Nat → Int} {a L z : Nat} (h : ¬ wmP tx a L z) : wmG tx a L z = 0 := by
  unfold wmG; rw [pB_f h]; rfl
noncomputable def wdF (tx : Nat → Int) (a L : Nat) : Nat := lsF (wmG tx a L) 1 12
noncomputable def wdI (tx : Nat → Int) (a L : Nat) : Int := if wdF tx a L < 12 then (wdF tx a L : Int) else -1
theorem stands_ok {N z a L e : Nat} {tx ty : Nat → Int} (hT : TpR e tx ty) (he : e ≤ 900) (ha : a + L ≤ e) (hz : z < 12) (hN : 1000 < N) : Ok (fX7_stands N z ((a + L : Nat) : Int) tx (a : Int)) (fun r => (r = 1 ∧ wmP tx a L z) ∨ (r = 0 ∧ ¬ wmP tx a L z)) := by
  have hl := len_w ⟨z, hz⟩
  have hl2 : 3 ≤ lenZ z ∧ lenZ z ≤ 6 := hl
  unfold fX7_stands
  refine Ok.bind (length_ok (by omega)) (fun r1 h1 => ?_)
  refine Ok.eq (by omega) (fun q => ?_) (fun q => Ok.ret (Or.inr ⟨rfl, fun w => q (by have := w.1; omega)⟩))
  refine Ok.loop (fun m i (_ : Unit) => fX7_stands_L17 N z ((a + L : Nat) : Int) tx (a : Int) (fX7_stands_j49 N z ((a + L : Nat) : Int) tx (a : Int)) m (i : Int)) L (fun i _ => ∀ j, j < i → tx (a + j) = bytZ z j) _ ?_ ?_ N 0 () (by omega) (by omega) (fun j hj => by omega)
  · intro m i _ hi hI ih
    show Ok (fX7_stands_b17 N z ((a + L : Nat) : Int) tx (a : Int) _ _ (i : Int)) _
    unfold fX7_stands_b17
    obtain ⟨c, c1, c2, c3⟩ := hT (a + i) (by omega)
    refine Ok.bind (length_ok (by omega)) (fun r3 h3 => Ok.ltp (by omega) (Ok.gd (by omega) (Ok.bind (charAt_ok (by omega) (by omega)) (fun r6 h6 => ?_))))
    rw [show ((a : Int) + (i : Int)).toNat = a + i by omega]
    refine Ok.eq (by omega) (fun w => ih () ?_) (fun w => Ok.ret (Or.inr ⟨rfl, ?_⟩))
    · intro j hj
      by_cases y : j = i
      · rw [y, w]; exact h6.1
      · exact hI j (by omega)
    · intro y
      exact w (by rw [h6.1]; exact y.2 i hi)
  · intro m _ hI
    show Ok (fX7_stands_b17 N z ((a + L : Nat) : Int) tx (a : Int) _ _ (L : Int)) _
    unfold fX7_stands_b17 fX7_stands_j49
    exact Ok.bind (length_ok (by omega)) (fun r3 h3 => Ok.ltn (by omega) (Ok.ret (Or.inl ⟨rfl, by omega, hI⟩)))
theorem readWord_ok {N e a : Nat} {tx ty : Nat → Int} (hT : TpR e tx ty) (he : e ≤ 900) (ha : a ≤ e) (hN : 1000 < N) : Ok (fX7_readWord N e tx a) (fun r => r = (wdI tx a (llS tx e a), ((a + llS tx e a : Nat) : Int))) := by
  unfold fX7_readWord
  have hls := ll_spec tx e a
  obtain ⟨L, hL⟩ : ∃ L, L = llS tx e a := ⟨_, rfl⟩
  rw [← hL] at hls ⊢
  have fin : Ok (fX7_readWord_j40 N e tx (a : Int) ((a + L : Nat) : Int)) (fun r => r = (wdI tx a L, ((a + L : Nat) : Int))) := by
    unfold fX7_readWord_j40
    refine Ok.loop (fun m i (_ : Unit) => fX7_readWord_L50 N e tx (fX7_readWord_j84 N e tx) m (a : Int) 12 (i : Int) ((a + L : Nat) : Int)) 12 (fun i _ => ∀ y, y < i → wmG tx a L y < 1) _ ?_ ?_ N 0 () (by omega) (by omega) (fun y hy => by omega)
    · intro m i _ hi hI ih
      show Ok (fX7_readWord_b50 N e tx _ _ (a : Int) 12 (i : Int) ((a + L : Nat) : Int)) _
      unfold fX7_readWord_b50
      rw [Int.toNat_natCast]
      refine Ok.ltp (by omega) (Ok.gd (by omega) (Ok.bind (stands_ok hT he (by omega) hi hN) (fun r6 h6 => ?_)))
      rcases h6 with ⟨z, z2⟩ | ⟨z, z2⟩
      · refine Ok.eqn (by omega) (Ok.ret ?_)
        unfold wdI wdF
        rw [lsF_eq (w := i) (by omega) hI (fun _ => by rw [wmG_t z2]; omega), if_pos hi]
      · refine Ok.eqp z (ih () ?_)
        intro y hy
        by_cases w : y = i
        · rw [w, wmG_f z2]; omega
        · exact hI y (by omega)
    · intro m _ hI
      show Ok (fX7_readWord_b50 N e tx _ _ (a : Int) 12 ((12 : Nat) : Int) ((a + L : Nat) : Int)) _
      unfold fX7_readWord_b50 fX7_readWord_j84
      refine Ok.ltn (by omega) (Ok.ret ?_)
      unfold wdI wdF
      rw [lsF_eq (w := 12) (by omega) hI (fun z => by omega), if_neg (by omega)]
  refine Ok.loop (fun m i (_ : Unit) => fX7_readWord_L5 N e tx (fX7_readWord_j40 N e tx) m (a : Int) ((a + i : Nat) : Int)) L (fun _ _ => True) _ ?_ ?_ N 0 () (by omega) (by omega) trivial
  · intro m i _ hi _ ih
    show Ok (fX7_readWord_b5 N e tx _ _ (a : Int) ((a + i : Nat) : Int)) _
    unfold fX7_readWord_b5
    have hdi := hls.2.1 i hi
    refine Ok.ltp (by omega) (Ok.bind (isAt_ok hT he (by omega) (by omega) (by omega)) (fun r2 h2 => ?_))
    have h2' : r2 = 1 := by
      rcases h2 with z | z
      · exact z.1
      · exact absurd ⟨by omega, by omega, by omega⟩ z.2
    rw [show ((a + i : Nat) : Int) + 1 = ((a + (i + 1) : Nat) : Int) by omega]
    exact Ok.eqn (by omega) (ih () trivial)
  · intro m _ _
    show Ok (fX7_readWord_b5 N e tx _ _ (a : Int) ((a + L : Nat) : Int)) _
    unfold fX7_readWord_b5
    refine Ok.lt (by omega) (fun q => ?_) (fun q => fin)
    refine Ok.bind (isAt_ok hT he (by omega) (by omega) (by omega)) (fun r2 h2 => ?_)
    have h2' : r2 = 0 := by
      rcases h2 with z | z
      · exact absurd ⟨z.2.2.1, z.2.2.2⟩ (hls.2.2 (by omega))
      · exact z.1
    exact Ok.eqp h2' fin
/-! the reference -/
theorem lettersHere_ok {N e a : Nat} {tx ty : Nat → Int} (hT : TpR e tx ty) (he : e ≤ 900) (ha : a ≤ e) (hN : 1000 < N) : Ok (fX12_lettersHere N e a ty) (fun r => r = (llS tx e a : Int)) := by
  unfold fX12_lettersHere
  have hls := ll_spec tx e a
  obtain ⟨L, hL⟩ : ∃ L, L = llS tx e a := ⟨_, rfl⟩
  rw [← hL] at hls ⊢
  refine Ok.loop (fun m i (_ : Unit) => fX12_lettersHere_L2 N e a ty (fX12_lettersHere_j38 N e a ty) m (i : Int)) L (fun _ _ => True) _ ?_ ?_ N 0 () (by omega) (by omega) trivial
  · intro m i _ hi _ ih
    show Ok (fX12_lettersHere_b2 N e a ty _ _ (i : Int)) _
    unfold fX12_lettersHere_b2
    have hdi := hls.2.1 i hi
    obtain ⟨c, c1, c2, c3⟩ := hT (a + i) (by omega)
    have hty : ty (a + i) = tx (a + i) := by rw [c3, c2, sbZ_lo (by omega)]
    rw [show ((a : Int) + (i : Int)).toNat = a + i by omega, hty]
    refine Ok.ltp (by omega) (Ok.gd (by omega) (Ok.bind (isLetter_ok (by omega)) (fun r3 h3 => ?_)))
    have h3' : r3 = 1 := by
      rcases h3 with z | z
      · exact z.1
      · exact absurd hdi z.2
    exact Ok.eqn (by omega) (ih () trivial)
  · intro m _ _
    show Ok (fX12_lettersHere_b2 N e a ty _ _ (L : Int)) _
    unfold fX12_lettersHere_b2 fX12_lettersHere_j38
    refine Ok.lt (by omega) (fun q => ?_) (fun q => Ok.ret rfl)
    obtain ⟨c, c1, c2, c3⟩ := hT (a + L) (by omega)
    have hsb := sbZ_b c1
    rw [show ((a : Int) + (L : Int)).toNat = a + L by omega, c3]
    refine Ok.gd (by omega) (Ok.bind (isLetter_ok (by omega)) (fun r3 h3 => ?_))
    have h3' : r3 = 0 := by
      rcases h3 with z | z
      · have h1 := (sbZ_let c1).mp z.2
        have h2 := hls.2.2 (by omega)
        rw [c2] at h2
        exact absurd h1 h2
      · exact z.1
    exact Ok.eqp h3' (Ok.ret rfl)
theorem wd_none {tx : Nat → Int} {a : Nat} : wdI tx a 0 = -1 := by
  unfold wdI wdF
  rw [lsF_eq (w := 12) (by omega) (fun z hz => by
    rw [wmG_f (by
      intro w
      have h1 := w.1
      have h2 : 3 ≤ lenZ z ∧ lenZ z ≤ 6 := len_w ⟨z, hz⟩
      omega)]
    omega) (fun z => by omega), if_neg (by omega)]
theorem wordHere_ok {N e a : Nat} {tx ty : Nat → Int} (hT : TpR e tx ty) (he : e ≤ 900) (ha : a ≤ e) (hN : 1000 < N) : Ok (fX12_wordHere N e 0 ty a) (fun r => r = (wdI tx (bkS tx e a) (llS tx e (bkS tx e a)), (bkS tx e a : Int))) := by
  unfold fX12_wordHere
  refine Ok.eqp rfl (Ok.bind (peek_ok hT he hN (by omega)) (fun r2 h2 => ?_))
  obtain ⟨h2a, h2b⟩ := h2
  have hbe := bkS_le (tx := tx) ha
  obtain ⟨b, hb⟩ : ∃ b, b = bkS tx e a := ⟨_, rfl⟩
  rw [← hb] at hbe h2a h2b ⊢
  have hls := ll_spec tx e b
  obtain ⟨L, hL⟩ : ∃ L, L = llS tx e b := ⟨_, rfl⟩
  have hLl := hL
  rw [← hL] at hls
  have hrb : -2147483648 ≤ r2.1 ∧ r2.1 < 2147483648 := by
    rcases h2b with z | z
    · omega
    · omega
  refine Ok.bind (isLetter_ok hrb) (fun r3 h3 => ?_)
  rw [h2a]
  rcases h3 with ⟨y1, y2⟩ | ⟨y1, y2⟩
  · refine Ok.eqn (by omega) (Ok.bind (lettersHere_ok hT he hbe hN) (fun r5 h5 => ?_))
    rw [← hL] at h5 ⊢
    rw [h5]
    have hp0 : (1 : Int) = (psT 0 : Int) := rfl
    rw [hp0]
    refine Ok.loop (fun m i (_ : Unit) => fX12_wordHere_L28 N e 0 ty (fX12_wordHere_j142 N e 0 ty) m (L : Int) (i : Int) (psT i : Int) (b : Int)) 12 (fun i _ => ∀ y, y < i → wmG tx b L y < 1) _ ?_ ?_ N 0 () (by omega) (by omega) (fun y hy => by omega)
    · intro m z _ hz hI ih
      show Ok (fX12_wordHere_b28 N e 0 ty _ _ (L : Int) (z : Int) (psT z : Int) (b : Int)) _
      unfold fX12_wordHere_b28
      have hps := ps_all ⟨z, hz⟩
      have hps1 : (psT z : Int) + lenZ z + 1 = (psT (z + 1) : Int) := hps.1
      have hps2 : bytZ 12 (psT z + (lenZ z).toNat) = 32 := hps.2.1
      have hps3 : psT z ≤ 67 := hps.2.2.1
      have hps4 : psT (z + 1) ≤ 72 := hps.2.2.2
      have hlw : 3 ≤ lenZ z ∧ lenZ z ≤ 6 := len_w ⟨z, hz⟩
      obtain ⟨l, hl⟩ : ∃ l : Nat, lenZ z = (l : Int) := ⟨(lenZ z).toNat, by omega⟩
      have hl12 : lenZ 12 = 72 := rfl
      rw [hl, Int.toNat_natCast] at hps2
      have hch : ∀ i, i < l → bytZ 12 (psT z + i) = bytZ z i ∧ bytZ z i ≠ 32 := fun i hi => ps_chr ⟨z, hz⟩ ⟨i, by omega⟩ (by show (i : Int) < lenZ z; omega)
      have next : ¬ wmP tx b L z → Ok (fX12_wordHere_L28 N e 0 ty (fX12_wordHere_j142 N e 0 ty) m (L : Int) ((z : Int) + 1) ((psT z : Int) + (l : Int) + 1) (b : Int)) (fun r => r = (wdI tx b L, (b : Int))) := by
        intro hno
        rw [show (z : Int) + 1 = ((z + 1 : Nat) : Int) by omega, show (psT z : Int) + (l : Int) + 1 = (psT (z + 1) : Int) by omega]
        refine ih () ?_
        intro y hy
        by_cases w : y = z
        · rw [w, wmG_f hno]; omega
        · exact hI y (by omega)
      have fin : Ok (fX12_wordHere_j58 N e 0 ty (fX12_wordHere_L28 N e 0 ty (fX12_wordHere_j142 N e 0 ty) m) (fX12_wordHere_j142 N e 0 ty) (L : Int) (z : Int) (psT z : Int) ((psT z + l : Nat) : Int) (b : Int)) (fun r => r = (wdI tx b L, (b : Int))) := by
        unfold fX12_wordHere_j58
        refine Ok.eq (by omega) (fun q => ?_) (fun q => ?_)
        · have hlL : l = L := by omega
          refine Ok.loop (fun n i (x : Int) => fX12_wordHere_L76 N e 0 ty (fX12_wordHere_j124 N e 0 ty (fX12_wordHere_L28 N e 0 ty (fX12_wordHere_j142 N e 0 ty) m) (fX12_wordHere_j142 N e 0 ty)) n (L : Int) (z : Int) (psT z : Int) ((psT z + l : Nat) : Int) x (i : Int) (b : Int)) L (fun i x => (x = 1 ∧ ∀ j, j < i → tx (b + j) = bytZ z j) ∨ (x = 0 ∧ ¬ wmP tx b L z)) _ ?_ ?_ N 0 1 (by omega) (by omega) (Or.inl ⟨rfl, fun j hj => by omega⟩)
          · intro n i x hi hI2 ih2
            show Ok (fX12_wordHere_b76 N e 0 ty _ _ (L : Int) (z : Int) (psT z : Int) ((psT z + l : Nat) : Int) x (i : Int) (b : Int)) _
            unfold fX12_wordHere_b76
            refine Ok.ltp (by omega) ?_
            rcases hI2 with ⟨x1, x2⟩ | ⟨x1, x2⟩
            · have hdi := hls.2.1 i hi
              obtain ⟨c, c1, c2, c3⟩ := hT (b + i) (by omega)
              have hty : ty (b + i) = tx (b + i) := by rw [c3, c2, sbZ_lo (by omega)]
              have hci := hch i (by omega)
              refine Ok.eqn (by omega) ?_
              rw [show (psT z : Int) + (i : Int) = ((psT z + i : Nat) : Int) by omega, show ((b : Int) + (i : Int)).toNat = b + i by omega, hty]
              refine Ok.bind (charAt_ok (by omega) (by omega)) (fun r13 h13 => Ok.gd (by omega) ?_)
              obtain ⟨g1, g2, g3⟩ := h13
              rw [hci.1] at g1
              refine Ok.eq (by omega) (fun w => ih2 1 (Or.inl ⟨rfl, ?_⟩)) (fun w => ih2 0 (Or.inr ⟨rfl, ?_⟩))
              · intro j hj
                by_cases y : j = i
                · rw [y, ← w]; exact g1
                · exact x2 j (by omega)
              · intro y
                exact w (by rw [g1]; exact (y.2 i hi).symm)
            · refine Ok.eqp x1 ?_
              unfold fX12_wordHere_j124
              rw [show ((psT z + l : Nat) : Int) + 1 = (psT z : Int) + (l : Int) + 1 by omega]
              exact Ok.eqp x1 (next x2)
          · intro n x hI2
            show Ok (fX12_wordHere_b76 N e 0 ty _ _ (L : Int) (z : Int) (psT z : Int) ((psT z + l : Nat) : Int) x (L : Int) (b : Int)) _
            unfold fX12_wordHere_b76 fX12_wordHere_j124
            refine Ok.ltn (by omega) ?_
            rw [show ((psT z + l : Nat) : Int) + 1 = (psT z : Int) + (l : Int) + 1 by omega]
            rcases hI2 with ⟨x1, x2⟩ | ⟨x1, x2⟩
            · refine Ok.eqn (by omega) (Ok.ret ?_)
              have hm : wmP tx b L z := ⟨by omega, x2⟩
              unfold wdI wdF
              rw [lsF_eq (w := z) (by omega) hI (fun _ => by rw [wmG_t hm]; omega), if_pos hz]
            · exact Ok.eqp x1 (next x2)
        · have hno : ¬ wmP tx b L z := by
            intro w
            have := w.1
            omega
          refine Ok.loop (fun n i (_ : Unit) => fX12_wordHere_L76 N e 0 ty (fX12_wordHere_j124 N e 0 ty (fX12_wordHere_L28 N e 0 ty (fX12_wordHere_j142 N e 0 ty) m) (fX12_wordHere_j142 N e 0 ty)) n (L : Int) (z : Int) (psT z : Int) ((psT z + l : Nat) : Int) 0 (i : Int) (b : Int)) 0 (fun _ _ => True) _ ?_ ?_ N 0 () (by omega) (by omega) trivial
          · intro n i _ hi
            omega
          · intro n _ _
            show Ok (fX12_wordHere_b76 N e 0 ty _ _ (L : Int) (z : Int) (psT z : Int) ((psT z + l : Nat) : Int) 0 ((0 : Nat) : Int) (b : Int)) _
            unfold fX12_wordHere_b76 fX12_wordHere_j124
            rw [show ((psT z + l : Nat) : Int) + 1 = (psT z : Int) + (l : Int) + 1 by omega]
            exact Ok.lt (by omega) (fun _ => Ok.eqp rfl (Ok.eqp rfl (next hno))) (fun _ => Ok.eqp rfl (next hno))
      refine Ok.bind (length_ok (by omega)) (fun r6 h6 => ?_)
      rw [h6, hl12]
      refine Ok.ltp (by omega) ?_
      refine Ok.loop (fun n i (_ : Unit) => fX12_wordHere_L40 N e 0 ty (fX12_wordHere_j58 N e 0 ty (fX12_wordHere_L28 N e 0 ty (fX12_wordHere_j142 N e 0 ty) m) (fX12_wordHere_j142 N e 0 ty)) n (L : Int) (z : Int) (psT z : Int) ((psT z + i : Nat) : Int) (b : Int)) l (fun _ _ => True) _ ?_ ?_ N 0 () (by omega) (by omega) trivial
      · intro n i _ hi _ ih2
        show Ok (fX12_wordHere_b40 N e 0 ty _ _ (L : Int) (z : Int) (psT z : Int) ((psT z + i : Nat) : Int) (b : Int)) _
        unfold fX12_wordHere_b40
        have hci := hch i hi
        refine Ok.bind (charAt_ok (by omega) (by omega)) (fun r8 h8 => ?_)
        obtain ⟨g1, g2, g3⟩ := h8
        rw [hci.1] at g1
        rw [show ((psT z + i : Nat) : Int) + 1 = ((psT z + (i + 1) : Nat) : Int) by omega]
        exact Ok.eqn ⟨by rw [g1]; exact hci.2, by omega⟩ (ih2 () trivial)
      · intro n _ _
        show Ok (fX12_wordHere_b40 N e 0 ty _ _ (L : Int) (z : Int) (psT z : Int) ((psT z + l : Nat) : Int) (b : Int)) _
        unfold fX12_wordHere_b40
        refine Ok.bind (charAt_ok (by omega) (by omega)) (fun r8 h8 => ?_)
        exact Ok.eqp (by rw [h8.1]; exact hps2) fin
    · intro m _ hI
      show Ok (fX12_wordHere_b28 N e 0 ty _ _ (L : Int) ((12 : Nat) : Int) (psT 12 : Int) (b : Int)) _
      unfold fX12_wordHere_b28 fX12_wordHere_j142
      have hl12 : lenZ 12 = 72 := rfl
      have hp12 : psT 12 = 72 := rfl
      refine Ok.bind (length_ok (by omega)) (fun r6 h6 => ?_)
      rw [h6, hl12, hp12]
      refine Ok.ltn (by omega) (Ok.ret ?_)
      unfold wdI wdF
      rw [lsF_eq (w := 12) (by omega) hI (fun z => by omega), if_neg (by omega)]
  · have hL0 : L = 0 := by
      rcases Nat.eq_zero_or_pos L with w | w
      · exact w
      · have := hls.2.1 0 w
        rw [Nat.add_zero] at this
        rcases h2b with z | z
        · rw [← z.2.1] at this; exact absurd this y2
        · exfalso; omega
    rw [← hL, hL0, wd_none]
    exact Ok.eqp y1 (Ok.ret rfl)
end PZ
