/-! The tape: bytes fed, blanks, digits. -/
section PW
def sbZ (c : Nat) : Int := if c < 128 then (c : Int) else (c : Int) - 256
theorem sb_and : ∀ c : Fin 256, aZ (sbZ c.val) 255 = (c.val : Int) := by decide +kernel
theorem byte_and (y : Int32) : (y &&& 255).toInt = ((y.toBitVec.toNat % 256 : Nat) : Int) := by
  show (y &&& 255).toBitVec.toInt = _
  rw [Int32.toBitVec_and]
  have h : (y.toBitVec &&& (255 : Int32).toBitVec).toNat = y.toBitVec.toNat % 256 := by
    rw [BitVec.toNat_and]
    show y.toBitVec.toNat &&& 255 = _
    rw [show 255 = 2 ^ 8 - 1 from rfl, Nat.and_two_pow_sub_one_eq_mod]
  rw [BitVec.toInt_eq_toNat_of_lt (by rw [h]; omega), h]
theorem byte_sgn (y : Int32) : y.toInt8.toInt32.toInt = sbZ (y.toBitVec.toNat % 256) := by
  rw [Int8.toInt_toInt32]
  show (y.toInt8.toBitVec).toInt = _
  have h : y.toInt8.toBitVec.toNat = y.toBitVec.toNat % 256 := by
    rw [Int32.toBitVec_toInt8, BitVec.signExtend_eq_setWidth_of_le _ (by decide), BitVec.toNat_setWidth]
  rw [BitVec.toInt_eq_toNat_cond, h]
  unfold sbZ
  by_cases q : y.toBitVec.toNat % 256 < 128
  · rw [if_pos (by omega), if_pos q]
  · rw [if_neg (by omega), if_neg q]
    rfl
noncomputable def byN (x : Int) (i : Nat) : Nat := (iZ (rZ x (24 - 8 * (i : Int)))).toBitVec.toNat % 256
theorem byN_b (x : Int) (i : Nat) : byN x i < 256 := Nat.mod_lt _ (by decide)
theorem by_c (x : Int) (i : Nat) : aZ (rZ x (24 - 8 * (i : Int))) 255 = (byN x i : Int) := byte_and _
theorem by_m (x : Int) (i : Nat) : nB (bZ (rZ x (24 - 8 * (i : Int)))) = sbZ (byN x i) := by
  unfold nB bZ
  show ((iZ ((iZ (rZ x (24 - 8 * (i : Int)))).toInt8.toInt32.toInt)).toInt8.toInt32).toInt = _
  rw [iZ_self, Int8.toInt8_toInt32]
  exact byte_sgn _
def TpR (L : Nat) (tx ty : Nat → Int) : Prop := ∀ k, k < L → ∃ c : Nat, c < 256 ∧ tx k = (c : Int) ∧ ty k = sbZ c
theorem TpR.sub {L M : Nat} {tx ty : Nat → Int} (h : TpR L tx ty) (hM : M ≤ L) : TpR M tx ty := fun k hk => h k (by omega)
theorem putFour_ok {N L : Nat} {tx : Nat → Int} {x : Int} (hL : L + 4 ≤ 900) (hN : 40 < N) : Ok (fX7_putFour N L tx x) (fun r => r.1 = ((L + 4 : Nat) : Int) ∧ (∀ k, k < L → r.2 k = tx k) ∧ ∀ i, i < 4 → r.2 (L + i) = (byN x i : Int)) := by
  unfold fX7_putFour
  rw [show (24 : Int) = 24 - 8 * ((0 : Nat) : Int) by omega]
  refine Ok.loop (fun m i (a : Nat → Int) => fX7_putFour_L3 N x (fX7_putFour_j49 N x) m (24 - 8 * (i : Int)) ((L + i : Nat) : Int) a) 4 (fun i a => (∀ k, k < L → a k = tx k) ∧ ∀ j, j < i → a (L + j) = (byN x j : Int)) _ ?_ ?_ N 0 tx (by omega) (by omega) ⟨fun k _ => rfl, fun j hj => by omega⟩
  · intro m i a hi hI ih
    show Ok (fX7_putFour_b3 N x _ _ (24 - 8 * (i : Int)) ((L + i : Nat) : Int) a) _
    unfold fX7_putFour_b3
    rw [by_c, Int.toNat_natCast, show 24 - 8 * (i : Int) + -8 = 24 - 8 * ((i + 1 : Nat) : Int) by omega, show ((L + i : Nat) : Int) + 1 = ((L + (i + 1) : Nat) : Int) by omega]
    refine Ok.ltn (by omega) (Ok.ltp (by omega) (Ok.gd (by omega) (ih _ ⟨?_, ?_⟩)))
    · intro k hk; rw [uZ_ne (by omega)]; exact hI.1 k hk
    · intro j hj
      by_cases z : j = i
      · rw [z, uZ_at]
      · rw [uZ_ne (by omega)]; exact hI.2 j (by omega)
  · intro m a hI
    show Ok (fX7_putFour_b3 N x _ _ (24 - 8 * ((4 : Nat) : Int)) ((L + 4 : Nat) : Int) a) _
    unfold fX7_putFour_b3 fX7_putFour_j49
    exact Ok.ltp (by omega) (Ok.ret ⟨rfl, hI.1, hI.2⟩)
def wdS (x1 x2 x3 x4 x5 : Int) (j : Nat) : Int := if j < 4 then x1 else if j < 8 then x2 else if j < 12 then x3 else if j < 16 then x4 else x5
theorem mfeed_ok {N L : Nat} {ty : Nat → Int} {x1 x2 x3 x4 x5 th : Int} (hL : L + 20 ≤ 900) (hN : 40 < N) : Ok (fX12_feed_L24 N x1 x2 x3 x4 x5 (fX12_feed_j118 N x1 x2 x3 x4 x5) N 0 th (L : Int) ty) (fun r => r.1 = ((L + 20 : Nat) : Int) ∧ r.2.2.1 = ((L + 20 : Nat) : Int) ∧ (∀ k, k < L → r.2.2.2 k = ty k) ∧ ∀ j, j < 20 → r.2.2.2 (L + j) = sbZ (byN (wdS x1 x2 x3 x4 x5 j) (j % 4))) := by
  refine Ok.loop (fun m i (a : Nat → Int) => fX12_feed_L24 N x1 x2 x3 x4 x5 (fX12_feed_j118 N x1 x2 x3 x4 x5) m (i : Int) th ((L + i : Nat) : Int) a) 20 (fun i a => (∀ k, k < L → a k = ty k) ∧ ∀ j, j < i → a (L + j) = sbZ (byN (wdS x1 x2 x3 x4 x5 j) (j % 4))) _ ?_ ?_ N 0 ty (by omega) (by omega) ⟨fun k _ => rfl, fun j hj => by omega⟩
  · intro m i a hi hI ih
    show Ok (fX12_feed_b24 N x1 x2 x3 x4 x5 _ _ (i : Int) th ((L + i : Nat) : Int) a) _
    unfold fX12_feed_b24
    have key : ∀ w, w = wdS x1 x2 x3 x4 x5 i → Ok (fX12_feed_j77 N x1 x2 x3 x4 x5 (fX12_feed_L24 N x1 x2 x3 x4 x5 (fX12_feed_j118 N x1 x2 x3 x4 x5) m) (fX12_feed_j118 N x1 x2 x3 x4 x5) (i : Int) w th ((L + i : Nat) : Int) a) (fun r => r.1 = ((L + 20 : Nat) : Int) ∧ r.2.2.1 = ((L + 20 : Nat) : Int) ∧ (∀ k, k < L → r.2.2.2 k = ty k) ∧ ∀ j, j < 20 → r.2.2.2 (L + j) = sbZ (byN (wdS x1 x2 x3 x4 x5 j) (j % 4))) := by
      intro w hw
      unfold fX12_feed_j77
      have hmod : mZ (i : Int) 4 = ((i % 4 : Nat) : Int) := by rw [mZ_mod (by omega) (by omega)]; rfl
      have hnz : ¬ iZ 4 = iZ 0 := by decide
      rw [hmod, by_m, Int.toNat_natCast, show ((L + i : Nat) : Int) + 1 = ((L + (i + 1) : Nat) : Int) by omega]
      refine Ok.gd hnz (Ok.gd (by omega) (ih _ ⟨?_, ?_⟩))
      · intro k hk; rw [uZ_ne (by omega)]; exact hI.1 k hk
      · intro j hj
        by_cases z : j = i
        · rw [z, uZ_at, hw]
        · rw [uZ_ne (by omega)]; exact hI.2 j (by omega)
    refine Ok.ltp (by omega) ?_
    unfold wdS at key
    refine Ok.lt (by omega) (fun q => key _ (by rw [if_pos (by omega)])) (fun q => ?_)
    refine Ok.lt (by omega) (fun q2 => key _ (by rw [if_neg (by omega), if_pos (by omega)])) (fun q2 => ?_)
    refine Ok.lt (by omega) (fun q3 => key _ (by rw [if_neg (by omega), if_neg (by omega), if_pos (by omega)])) (fun q3 => ?_)
    exact Ok.lt (by omega) (fun q4 => key _ (by rw [if_neg (by omega), if_neg (by omega), if_neg (by omega), if_pos (by omega)])) (fun q4 => key _ (by rw [if_neg (by omega), if_neg (by omega), if_neg (by omega), if_neg (by omega)]))
  · intro m a hI
    show Ok (fX12_feed_b24 N x1 x2 x3 x4 x5 _ _ ((20 : Nat) : Int) th ((L + 20 : Nat) : Int) a) _
    unfold fX12_feed_b24 fX12_feed_j118
    exact Ok.ltn (by omega) (Ok.ret ⟨rfl, rfl, hI.1, hI.2⟩)
def TpJ (ln tp : Int) (tx ty : Nat → Int) : Prop := ∃ L : Nat, L ≤ 900 ∧ ln = (L : Int) ∧ tp = (L : Int) ∧ TpR L tx ty
theorem feed_j {N : Nat} {ln tp th x1 x2 x3 x4 x5 : Int} {tx ty : Nat → Int} (hN : 400 < N) (h : TpJ ln tp tx ty) : Ok (fX11_feed N ln tx x1 x2 x3 x4 x5) (fun r => Ok (fX12_feed N th tp ty x1 x2 x3 x4 x5) (fun q => r.1 = q.1 ∧ TpJ r.2.1 q.2.2.1 r.2.2 q.2.2.2)) := by
  obtain ⟨L, hL, rfl, rfl, hT⟩ := h
  unfold fX11_feed fX12_feed
  refine Ok.lt (by omega) (fun q => Ok.ret (Ok.ltp (by omega) (Ok.ret ⟨rfl, L, hL, rfl, rfl, hT⟩))) (fun q => ?_)
  refine Ok.bind (putFour_ok (by omega) (by omega)) (fun r2 h2 => ?_)
  rw [h2.1]
  refine Ok.bind (putFour_ok (by omega) (by omega)) (fun r3 h3 => ?_)
  rw [h3.1]
  refine Ok.bind (putFour_ok (by omega) (by omega)) (fun r4 h4 => ?_)
  rw [h4.1]
  refine Ok.bind (putFour_ok (by omega) (by omega)) (fun r5 h5 => ?_)
  rw [h5.1]
  refine Ok.bind (putFour_ok (by omega) (by omega)) (fun r6 h6 => Ok.ret (Ok.ltn (by omega) ?_))
  refine Ok.mono (mfeed_ok (by omega) (by omega)) (fun z hz => ⟨?_, L + 20, by omega, ?_, hz.2.1, ?_⟩)
  · rw [hz.1]; exact h6.1
  · exact h6.1
  · intro k hk
    show ∃ c : Nat, c < 256 ∧ r6.2 k = (c : Int) ∧ z.2.2.2 k = sbZ c
    by_cases w : k < L
    · obtain ⟨c, c1, c2, c3⟩ := hT k w
      refine ⟨c, c1, ?_, ?_⟩
      · rw [h6.2.1 k (by omega), h5.2.1 k (by omega), h4.2.1 k (by omega), h3.2.1 k (by omega), h2.2.1 k w]; exact c2
      · rw [hz.2.2.1 k w]; exact c3
    · obtain ⟨j, rfl⟩ : ∃ j, k = L + j := ⟨k - L, by omega⟩
      refine ⟨byN (wdS x1 x2 x3 x4 x5 j) (j % 4), byN_b _ _, ?_, hz.2.2.2 j (by omega)⟩
      unfold wdS
      by_cases w1 : j < 4
      · rw [if_pos w1, h6.2.1 _ (by omega), h5.2.1 _ (by omega), h4.2.1 _ (by omega), h3.2.1 _ (by omega), h2.2.2 j w1, show j % 4 = j by omega]
      · rw [if_neg w1]
        by_cases w2 : j < 8
        · rw [if_pos w2, h6.2.1 _ (by omega), h5.2.1 _ (by omega), h4.2.1 _ (by omega), show L + j = L + 4 + (j - 4) by omega, h3.2.2 (j - 4) (by omega), show j % 4 = j - 4 by omega]
        · rw [if_neg w2]
          by_cases w3 : j < 12
          · rw [if_pos w3, h6.2.1 _ (by omega), h5.2.1 _ (by omega), show L + j = L + 4 + 4 + (j - 8) by omega, h4.2.2 (j - 8) (by omega), show j % 4 = j - 8 by omega]
          · rw [if_neg w3]
            by_cases w4 : j < 16
            · rw [if_pos w4, h6.2.1 _ (by omega), show L + j = L + 4 + 4 + 4 + (j - 12) by omega, h5.2.2 (j - 12) (by omega), show j % 4 = j - 12 by omega]
            · rw [if_neg w4, show L + j = L + 4 + 4 + 4 + 4 + (j - 16) by omega, h6.2.2 (j - 16) (by omega), show j % 4 = j - 16 by omega]
/-! blanks -/
def bkG (tx : Nat → Int) (a : Nat) : Nat → Int := fun j => if tx (a + j) = 32 then 0 else 1
def bkS (tx : Nat → Int) (e a : Nat) : Nat := a + lsF (bkG tx a) 1 (e - a)
theorem bkS_ge (tx : Nat → Int) (e a : Nat) : a ≤ bkS tx e a := Nat.le_add_right _ _
theorem bkS_le {tx : Nat → Int} {e a : Nat} (h : a ≤ e) : bkS tx e a ≤ e := by
  have := (lsF_spec (bkG tx a) 1 (e - a)).1
  unfold bkS
  omega
theorem bkS_out {tx : Nat → Int} {e a : Nat} (h : e ≤ a) : bkS tx e a = a := by
  have := (lsF_spec (bkG tx a) 1 (e - a)).1
  unfold bkS
  omega
theorem skipBlanks_ok {N e a : Nat} {tx ty : Nat → Int} (hT : TpR e tx ty) (he : e ≤ 900) (ha : a ≤ e) (hN : 1000 < N) : Ok (fX7_skipBlanks N e tx a) (fun r => r = (bkS tx e a : Int)) := by
  unfold fX7_skipBlanks bkS
  refine Ok.loop (fun m i (_ : Unit) => fX7_skipBlanks_L0 N e tx (fX7_skipBlanks_j38 N e tx) m ((a + i : Nat) : Int)) (e - a) (fun i _ => ∀ y, y < i → bkG tx a y < 1) _ ?_ ?_ N 0 () (by omega) (by omega) (fun y hy => by omega)
  · intro m i _ hi hI ih
    show Ok (fX7_skipBlanks_b0 N e tx _ _ ((a + i : Nat) : Int)) _
    unfold fX7_skipBlanks_b0 fX7_skipBlanks_j38
    obtain ⟨c, c1, c2, c3⟩ := hT (a + i) (by omega)
    rw [Int.toNat_natCast]
    refine Ok.ltp (by omega) (Ok.gd (by omega) (Ok.eq (by omega) (fun q => ?_) (fun q => Ok.ret ?_)))
    · rw [show ((a + i : Nat) : Int) + 1 = ((a + (i + 1) : Nat) : Int) by omega]
      refine ih () ?_
      intro y hy
      by_cases z : y = i
      · rw [z]; unfold bkG; rw [if_pos q]; omega
      · exact hI y (by omega)
    · rw [lsF_eq (w := i) (by omega) hI (fun _ => by unfold bkG; rw [if_neg q]; omega)]
  · intro m _ hI
    show Ok (fX7_skipBlanks_b0 N e tx _ _ ((a + (e - a) : Nat) : Int)) _
    unfold fX7_skipBlanks_b0 fX7_skipBlanks_j38
    refine Ok.ltn (by omega) (Ok.ret ?_)
    rw [lsF_eq (w := e - a) (by omega) hI (fun z => by omega)]
theorem peek_ok {N e a : Nat} {tx ty : Nat → Int} (hT : TpR e tx ty) (he : e ≤ 900) (hN : 1000 < N) (ha : a ≤ 10000) : Ok (fX12_peek N e ty a) (fun r => r.2 = (bkS tx e a : Int) ∧ ((bkS tx e a < e ∧ r.1 = tx (bkS tx e a) ∧ 0 ≤ r.1 ∧ r.1 ≤ 255) ∨ (e ≤ bkS tx e a ∧ r.1 = -1))) := by
  unfold fX12_peek
  have fin : ∀ w : Nat, w = bkS tx e a → Ok (fX12_peek_j38 N e ty (w : Int)) (fun r => r.2 = (bkS tx e a : Int) ∧ ((bkS tx e a < e ∧ r.1 = tx (bkS tx e a) ∧ 0 ≤ r.1 ∧ r.1 ≤ 255) ∨ (e ≤ bkS tx e a ∧ r.1 = -1))) := by
    intro w hw
    have hge := bkS_ge tx e a
    have hwb : w ≤ 10000 := by
      by_cases z : a ≤ e
      · have := bkS_le (tx := tx) z; omega
      · have := bkS_out (tx := tx) (e := e) (a := a) (by omega); omega
    unfold fX12_peek_j38
    rw [Int.toNat_natCast]
    refine Ok.lt (by omega) (fun q => Ok.gd (by omega) (Ok.ret ?_)) (fun q => Ok.ret ?_)
    · obtain ⟨c, c1, c2, c3⟩ := hT w (by omega)
      have e1 : aZ (ty w) 255 = (c : Int) := by rw [c3]; exact sb_and ⟨c, c1⟩
      rw [e1]
      refine ⟨by rw [← hw], Or.inl ⟨by omega, ?_, by omega, by omega⟩⟩
      rw [← hw, c2]
    · exact ⟨by rw [← hw], Or.inr ⟨by omega, rfl⟩⟩
  refine Ok.loop (fun m i (_ : Unit) => fX12_peek_L0 N e ty (fX12_peek_j38 N e ty) m ((a + i : Nat) : Int)) (e - a) (fun i _ => ∀ y, y < i → bkG tx a y < 1) _ ?_ ?_ N 0 () (by omega) (by omega) (fun y hy => by omega)
  · intro m i _ hi hI ih
    show Ok (fX12_peek_b0 N e ty _ _ ((a + i : Nat) : Int)) _
    unfold fX12_peek_b0
    obtain ⟨c, c1, c2, c3⟩ := hT (a + i) (by omega)
    have h32 : ty (a + i) = 32 ↔ tx (a + i) = 32 := by
      rw [c2, c3]; unfold sbZ
      by_cases z : c < 128
      · rw [if_pos z]
      · rw [if_neg z]; omega
    have hb : -200 ≤ ty (a + i) ∧ ty (a + i) ≤ 200 := by
      rw [c3]; unfold sbZ
      by_cases z : c < 128
      · rw [if_pos z]; omega
      · rw [if_neg z]; omega
    rw [Int.toNat_natCast]
    refine Ok.ltp (by omega) (Ok.gd (by omega) (Ok.eq (by omega) (fun q => ?_) (fun q => ?_)))
    · rw [show ((a + i : Nat) : Int) + 1 = ((a + (i + 1) : Nat) : Int) by omega]
      refine ih () ?_
      intro y hy
      by_cases z : y = i
      · rw [z]; unfold bkG; rw [if_pos (h32.mp q)]; omega
      · exact hI y (by omega)
    · refine fin (a + i) ?_
      unfold bkS
      rw [lsF_eq (w := i) (by omega) hI (fun _ => by unfold bkG; rw [if_neg (fun z => q (h32.mpr z))]; omega)]
  · intro m _ hI
    show Ok (fX12_peek_b0 N e ty _ _ ((a + (e - a) : Nat) : Int)) _
    unfold fX12_peek_b0
    refine Ok.ltn (by omega) (fin (a + (e - a)) ?_)
    unfold bkS
    rw [lsF_eq (w := e - a) (by omega) hI (fun z => by omega)]
theorem isAt_ok {N e a : Nat} {tx ty : Nat → Int} {lo hi : Int} (hT : TpR e tx ty) (he : e ≤ 900) (ha : a ≤ 10000) (hl : 0 ≤ lo ∧ lo ≤ 1000) (hh : 0 ≤ hi ∧ hi ≤ 1000) : Ok (fX7_isAt N e a tx lo hi) (fun r => (r = 1 ∧ a < e ∧ lo ≤ tx a ∧ tx a ≤ hi) ∨ (r = 0 ∧ ¬ (a < e ∧ lo ≤ tx a ∧ tx a ≤ hi))) := by
  unfold fX7_isAt
  rw [Int.toNat_natCast]
  refine Ok.lt (by omega) (fun q => ?_) (fun q => Ok.ret (Or.inr ⟨rfl, fun z => by omega⟩))
  obtain ⟨c, c1, c2, c3⟩ := hT a (by omega)
  refine Ok.gd (by omega) (Ok.lt (by omega) (fun q2 => Ok.ret (Or.inr ⟨rfl, fun z => by omega⟩)) (fun q2 => Ok.gd (by omega) (Ok.lt (by omega) (fun q3 => Ok.ret (Or.inr ⟨rfl, fun z => by omega⟩)) (fun q3 => Ok.ret (Or.inl ⟨rfl, by omega, by omega, by omega⟩)))))
end PW
