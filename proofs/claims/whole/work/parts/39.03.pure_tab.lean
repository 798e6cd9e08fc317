/-! Tables: the least shade that has so much, bounds; class and reference. -/
section PA
/-- the least below n that has so much; n -/
def lsF (G : Nat → Int) (m : Int) : Nat → Nat
  | 0 => 0
  | n + 1 => if lsF G m n < n then lsF G m n else if G n < m then n + 1 else n
theorem lsF_succ (G : Nat → Int) (m : Int) (n : Nat) : lsF G m (n + 1) = if lsF G m n < n then lsF G m n else if G n < m then n + 1 else n := rfl
theorem lsF_spec (G : Nat → Int) (m : Int) : ∀ n, lsF G m n ≤ n ∧ (∀ x, x < lsF G m n → G x < m) ∧ (lsF G m n < n → m ≤ G (lsF G m n))
  | 0 => ⟨Nat.le_refl _, fun x hx => by have e1 : lsF G m 0 = 0 := rfl; omega, fun hx => by have e1 : lsF G m 0 = 0 := rfl; omega⟩
  | n + 1 => by
    obtain ⟨h1, h2, h3⟩ := lsF_spec G m n
    rw [lsF_succ]
    by_cases q : lsF G m n < n
    · rw [if_pos q]; exact ⟨by omega, h2, fun _ => h3 q⟩
    · rw [if_neg q]
      have e1 : lsF G m n = n := by omega
      rw [e1] at h2
      by_cases q2 : G n < m
      · rw [if_pos q2]
        refine ⟨Nat.le_refl _, fun x hx => ?_, fun hx => by omega⟩
        rcases Nat.lt_or_ge x n with z | z
        · exact h2 x z
        · rw [show x = n by omega]; exact q2
      · rw [if_neg q2]; exact ⟨by omega, h2, fun _ => by omega⟩
theorem lsF_ge {G : Nat → Int} {m : Int} {n w : Nat} (hw : w ≤ n) (h : ∀ x, x < w → G x < m) : w ≤ lsF G m n := by
  obtain ⟨h1, h2, h3⟩ := lsF_spec G m n
  rcases Nat.lt_or_ge (lsF G m n) w with q | q
  · have := h _ q
    have := h3 (by omega)
    omega
  · exact q
theorem lsF_cong {G G' : Nat → Int} {m : Int} : ∀ {n : Nat}, (∀ x, x < n → G x = G' x) → lsF G m n = lsF G' m n
  | 0, _ => rfl
  | n + 1, h => by rw [lsF_succ, lsF_succ, lsF_cong (n := n) (fun x hx => h x (by omega)), h n (by omega)]
def clS (lo hi v : Int) : Int := if v < lo then lo else if hi < v then hi else v
def bdS (se : Nat → Int) (x v : Int) : Int := clS (x - se 3) (x + se 3) (clS (se 1) (se 2) v)
theorem clS_b {lo hi v : Int} (h : lo ≤ hi) : lo ≤ clS lo hi v ∧ clS lo hi v ≤ hi := by
  unfold clS
  by_cases q : v < lo
  · rw [if_pos q]; omega
  · rw [if_neg q]
    by_cases q2 : hi < v
    · rw [if_pos q2]; omega
    · rw [if_neg q2]; omega
/-- settings within bounds -/
def SeV (se : Nat → Int) : Prop := (0 ≤ se 0 ∧ se 0 ≤ 3) ∧ (0 ≤ se 1 ∧ se 1 ≤ 15) ∧ (0 ≤ se 2 ∧ se 2 ≤ 15) ∧ (0 ≤ se 3 ∧ se 3 ≤ 15) ∧ (0 ≤ se 4 ∧ se 4 ≤ 999) ∧ (0 ≤ se 5 ∧ se 5 ≤ 2) ∧ se 1 ≤ se 2
theorem FV.seV {d cu sk se we : Nat → Int} {W H F : Nat} (hv : FV d cu sk se we W H F) : SeV se := by
  have h := hv.2.2.2.2.2.2.2.1
  exact ⟨h 0 (by omega), h 1 (by omega), h 2 (by omega), h 3 (by omega), h 4 (by omega), h 5 (by omega), hv.2.2.2.2.2.2.2.2.1⟩
theorem bdS_b {se : Nat → Int} (h : SeV se) {x v : Int} (hx : 0 ≤ x ∧ x ≤ 15) : 0 ≤ bdS se x v ∧ bdS se x v ≤ 15 := by
  obtain ⟨h0, h1, h2, h3, h4, h5, h6⟩ := h
  have hb := clS_b (lo := se 1) (hi := se 2) (v := v) h6
  unfold bdS
  generalize clS (se 1) (se 2) v = y at hb
  unfold clS
  by_cases q : y < x - se 3
  · rw [if_pos q]; omega
  · rw [if_neg q]
    by_cases q2 : x + se 3 < y
    · rw [if_pos q2]; omega
    · rw [if_neg q2]; omega
def tbS (se G : Nat → Int) (m : Int) (v : Int) : Int := if v ≤ se 1 ∨ se 2 ≤ v then v else bdS se v (lsF G m 15 : Int)
theorem tbS_b {se G : Nat → Int} {m : Int} (h : SeV se) {x : Int} (hx : 0 ≤ x ∧ x ≤ 15) : 0 ≤ tbS se G m x ∧ tbS se G m x ≤ 15 := by
  unfold tbS
  by_cases q : x ≤ se 1 ∨ se 2 ≤ x
  · rw [if_pos q]; exact hx
  · rw [if_neg q]; exact bdS_b h hx
theorem keeps_ok {N : Nat} {se : Nat → Int} {x : Int} (h : SeV se) (hx : 0 ≤ x ∧ x ≤ 15) : Ok (fX2_keeps N se x) (fun r => (r = 1 ∧ (x ≤ se 1 ∨ se 2 ≤ x)) ∨ (r = 0 ∧ ¬ (x ≤ se 1 ∨ se 2 ≤ x))) := by
  obtain ⟨h0, h1, h2, h3, h4, h5, h6⟩ := h
  unfold fX2_keeps
  rw [(show ((1 : Int)).toNat = 1 from rfl), (show ((2 : Int)).toNat = 2 from rfl)]
  refine Ok.gd (by omega) (Ok.lt (by omega) (fun q => Ok.gd (by omega) (Ok.lt (by omega) (fun q2 => Ok.ret (Or.inr ⟨rfl, by omega⟩)) (fun q2 => Ok.ret (Or.inl ⟨rfl, by omega⟩)))) (fun q => Ok.ret (Or.inl ⟨rfl, by omega⟩)))
theorem isKept_ok {N : Nat} {s : Nat → Int} {d cu sk se we : Nat → Int} {W H F : Nat} {x : Int} (hs : SR s d cu sk se we W H F) (h : SeV se) (hx : 0 ≤ x ∧ x ≤ 15) : Ok (fX12_isKept N s x) (fun r => (r = 1 ∧ (x ≤ se 1 ∨ se 2 ≤ x)) ∨ (r = 0 ∧ ¬ (x ≤ se 1 ∨ se 2 ≤ x))) := by
  obtain ⟨h0, h1, h2, h3, h4, h5, h6⟩ := h
  have s4 : s 4 = se 1 := hs.2.2.2.1 1 (by omega)
  have s5 : s 5 = se 2 := hs.2.2.2.1 2 (by omega)
  unfold fX12_isKept
  rw [(show ((4 : Int)).toNat = 4 from rfl), (show ((5 : Int)).toNat = 5 from rfl), s4, s5]
  refine Ok.gd (by omega) (Ok.lt (by omega) (fun q => Ok.gd (by omega) (Ok.lt (by omega) (fun q2 => Ok.ret (Or.inr ⟨rfl, by omega⟩)) (fun q2 => Ok.ret (Or.inl ⟨rfl, by omega⟩)))) (fun q => Ok.ret (Or.inl ⟨rfl, by omega⟩)))
theorem bounded_ok {N : Nat} {se : Nat → Int} {x v : Int} (h : SeV se) (hx : 0 ≤ x ∧ x ≤ 15) (hv : 0 ≤ v ∧ v ≤ 15) : Ok (fX2_bounded N se x v) (fun r => r = bdS se x v) := by
  obtain ⟨h0, h1, h2, h3, h4, h5, h6⟩ := h
  unfold fX2_bounded
  rw [(show ((1 : Int)).toNat = 1 from rfl), (show ((2 : Int)).toNat = 2 from rfl), (show ((3 : Int)).toNat = 3 from rfl)]
  refine Ok.gd (by omega) (Ok.gd (by omega) (Ok.gd (by omega) (Ok.ret ?_)))
  have e1 : mnZ (mxZ v (se 1)) (se 2) = clS (se 1) (se 2) v := by
    rw [mxZ_max (by omega)]
    unfold clS
    by_cases q : v < se 1
    · rw [if_pos q, if_pos q, mnZ_min (by omega), if_neg (by omega)]
    · rw [if_neg q, if_neg q, mnZ_min (by omega)]
  have hb := clS_b (lo := se 1) (hi := se 2) (v := v) h6
  rw [e1]
  unfold bdS
  generalize clS (se 1) (se 2) v = y at hb
  rw [mxZ_max (by omega)]
  unfold clS
  by_cases q : y < x - se 3
  · rw [if_pos q, if_pos q, mnZ_min (by omega), if_neg (by omega)]
  · rw [if_neg q, if_neg q, mnZ_min (by omega)]
theorem boundedTo_ok {N : Nat} {s G : Nat → Int} {d cu sk se we : Nat → Int} {W H F : Nat} {x m : Int} (hs : SR s d cu sk se we W H F) (h : SeV se) (hx : 0 ≤ x ∧ x ≤ 15) (hG : ∀ v, v < 16 → 0 ≤ G v ∧ G v ≤ 64) (hm : -1000 ≤ m ∧ m ≤ 1000) (hm2 : m ≤ G 15) (hN : 40 < N) : Ok (fX12_boundedTo N G s x m) (fun r => r = bdS se x (lsF G m 15 : Int)) := by
  obtain ⟨h0, h1, h2, h3, h4, h5, h6⟩ := h
  have s4 : s 4 = se 1 := hs.2.2.2.1 1 (by omega)
  have s5 : s 5 = se 2 := hs.2.2.2.1 2 (by omega)
  have s6 : s 6 = se 3 := hs.2.2.2.1 3 (by omega)
  obtain ⟨l1, l2, l3⟩ := lsF_spec G m 15
  unfold fX12_boundedTo
  refine Ok.loop (fun n i (_ : Unit) => fX12_boundedTo_L2 N G s x m (fX12_boundedTo_j18 N G s x m) n (i : Int)) (lsF G m 15) (fun i _ => True) _ ?_ ?_ N 0 () (by omega) (by omega) trivial
  · intro n i y hi _ ih
    show Ok (fX12_boundedTo_b2 N G s x m _ _ (i : Int)) _
    unfold fX12_boundedTo_b2
    rw [Int.toNat_natCast]
    have := hG i (by omega)
    have := l2 i hi
    exact Ok.gd (by omega) (Ok.ltp (by omega) (ih () trivial))
  · intro n y _
    show Ok (fX12_boundedTo_b2 N G s x m _ _ ((lsF G m 15 : Nat) : Int)) _
    unfold fX12_boundedTo_b2
    rw [Int.toNat_natCast]
    have := hG (lsF G m 15) (by omega)
    have hge : m ≤ G (lsF G m 15) := by
      rcases Nat.lt_or_ge (lsF G m 15) 15 with z | z
      · exact l3 z
      · rw [show lsF G m 15 = 15 by omega]; exact hm2
    refine Ok.gd (by omega) (Ok.ltn (by omega) ?_)
    unfold fX12_boundedTo_j18
    rw [(show ((4 : Int)).toNat = 4 from rfl), (show ((5 : Int)).toNat = 5 from rfl), s4, s5]
    have fin : ∀ y, se 1 ≤ y ∧ y ≤ se 2 → y = clS (se 1) (se 2) (lsF G m 15 : Int) → Ok (fX12_boundedTo_j57 N G s x m y) (fun r => r = bdS se x (lsF G m 15 : Int)) := fun y hy hy2 => by
      unfold fX12_boundedTo_j57 bdS
      rw [(show ((6 : Int)).toNat = 6 from rfl), s6, ← hy2]
      unfold clS
      refine Ok.gd (by omega) (Ok.lt (by omega) (fun q => Ok.ret (by rw [if_pos q])) (fun q => Ok.lt (by omega) (fun q2 => Ok.ret (by rw [if_neg (by omega), if_pos q2])) (fun q2 => Ok.ret (by rw [if_neg (by omega), if_neg (by omega)]))))
    refine Ok.gd (by omega) (Ok.lt (by omega) (fun q => Ok.gd (by omega) (fin _ (by omega) ?_)) (fun q => Ok.gd (by omega) (Ok.lt (by omega) (fun q2 => Ok.gd (by omega) (fin _ (by omega) ?_)) (fun q2 => fin _ (by omega) ?_))))
    · unfold clS; rw [if_pos q]
    · unfold clS; rw [if_neg (by omega), if_pos q2]
    · unfold clS; rw [if_neg (by omega), if_neg (by omega)]
/-- rows of counts: they rise, and end with all -/
def RowM (C : Nat → Int) (F S : Nat) : Prop := ∀ t, t < F → (∀ v w, v ≤ w → w < 16 → C (16 * t + v) ≤ C (16 * t + w)) ∧ C (16 * t + 15) = (S : Int)
theorem cumS_mono (d : Nat → Int) (S t : Nat) {v w : Nat} (h : v ≤ w) : cumS d S t v ≤ cumS d S t w := by
  refine sI_le (fun k _ => ?_)
  by_cases q : d (64 * t + k) ≤ (v : Int)
  · rw [if_pos q, if_pos (by omega)]; omega
  · rw [if_neg q]
    by_cases q2 : d (64 * t + k) ≤ (w : Int)
    · rw [if_pos q2]; omega
    · rw [if_neg q2]; omega
theorem sI_one : ∀ n : Nat, sI (fun _ => 1) n = (n : Int)
  | 0 => rfl
  | n + 1 => by rw [sI_succ, sI_one n]; omega
theorem cumS_all {d : Nat → Int} {S t : Nat} (h : ∀ p, p < S → d (64 * t + p) ≤ 15) : cumS d S t 15 = (S : Int) := by
  have e1 : cumS d S t 15 = sI (fun _ => 1) S := sI_cong (fun k hk => if_pos (h k hk))
  rw [e1, sI_one]
theorem CU_m {d : Nat → Int} {F S : Nat} (h : ∀ t p, t < F → p < S → 0 ≤ d (64 * t + p) ∧ d (64 * t + p) ≤ 15) : RowM (CU d S) F S := fun t ht => ⟨fun v w h1 h2 => by rw [CU_at d S t v (by omega), CU_at d S t w h2]; exact cumS_mono d S t h1, by rw [CU_at d S t 15 (by omega)]; exact cumS_all (fun p hp => (h t p ht hp).2)⟩
theorem wn_le {sk se we C : Nat → Int} {b : Nat → Bool} {F t v : Nat} (hw : ∀ k, k < 4 → 1 ≤ we k ∧ we k ≤ 9) (hr : se 0 ≤ 3) (hC : RowB C) (hv : v < 16) {n : Nat} (hn : n ≤ 24) : sI (wnS sk se we b C F t v) n ≤ 64 * sI (wtS sk se we b F t) n := by
  rw [← sI_scale]
  refine sI_le (fun k hk => ?_)
  have h1 := wtS_b (sk := sk) (b := b) (F := F) (t := t) (u := k) hw hr
  have h2 := hC (16 * k + v) (by omega)
  unfold wnS
  rw [Int.mul_comm]
  exact Int.mul_le_mul_of_nonneg_right h2.2 h1.1
theorem tgS_b {sk se we C : Nat → Int} {b : Nat → Bool} {F t v : Nat} (h0 : b 0 = true) (hw : ∀ k, k < 4 → 1 ≤ we k ∧ we k ≤ 9) (hr : se 0 ≤ 3) (hC : RowB C) (hF : F ≤ 24) (ht : t < F) (hv : v < 16) : 0 ≤ tgS sk se we b C F t v ∧ tgS sk se we b C F t v ≤ 64 := by
  unfold tgS
  by_cases q : se 5 = 2
  · rw [if_pos q]
    have := kyS_b h0 (c := C) ht
    exact hC _ (by omega)
  · rw [if_neg q]
    unfold tgW
    by_cases q2 : sI (wtS sk se we b F t) F = 0
    · rw [if_pos q2]; exact hC _ (by omega)
    · rw [if_neg q2]
      have b1 := wt_sum_b (sk := sk) (b := b) (F := F) (t := t) hw hr hF
      have b2 := wn_sum_b (sk := sk) (b := b) (F := F) (t := t) hw hr hC hv hF
      have b3 := wn_le (sk := sk) (b := b) (F := F) (t := t) hw hr hC hv hF
      exact ⟨Int.ediv_nonneg b2.1 b1.1, Int.ediv_le_of_le_mul (by omega) b3⟩
theorem tgS_15 {sk se we C : Nat → Int} {b : Nat → Bool} {F S t : Nat} (h0 : b 0 = true) (hM : RowM C F S) (ht : t < F) : tgS sk se we b C F t 15 = (S : Int) := by
  unfold tgS
  by_cases q : se 5 = 2
  · rw [if_pos q]
    exact (hM _ (kyS_b h0 ht)).2
  · rw [if_neg q]
    unfold tgW
    by_cases q2 : sI (wtS sk se we b F t) F = 0
    · rw [if_pos q2]; exact (hM t ht).2
    · rw [if_neg q2]
      have e1 : sI (wnS sk se we b C F t 15) F = (S : Int) * sI (wtS sk se we b F t) F := by
        rw [← sI_scale]
        refine sI_cong (fun k hk => ?_)
        unfold wnS
        rw [(hM k hk).2, Int.mul_comm]
      rw [e1]
      exact Int.mul_ediv_cancel _ q2
theorem laysTable_ok {N t S : Nat} {d cu sk se we : Nat → Int} {W H F : Nat} {b : Nat → Bool} {s be C c tg tb : Nat → Int} {wm : Int} (hs : SR s d cu sk se we W H F) (hv : FV d cu sk se we W H F) (hb : BeR b F be) (hc : CR C F c) (hC : RowB C) (hM : RowM C F S) (h0 : b 0 = true) (ht : t < F) (hN : 40 < N) : Ok (fX12_laysTable N s be c wm tg tb t) (fun r => r.1 = wiS sk se b F t ∧ (∀ v, v < 16 → r.2.1 v = tgS sk se we b C F t v) ∧ ∀ v, v < 16 → r.2.2 v = tbS se (tgS sk se we b C F t) (C (16 * t + v)) v) := by
  have hF := hv.2.2.1
  have hw := hv.2.2.2.2.2.2.2.2.2
  have hse := hv.seV
  unfold fX12_laysTable
  refine Ok.bind (laysTarget_ok hs hv hb hc hC h0 ht hN) (fun r1 h1 => ?_)
  obtain ⟨h1a, h1b⟩ := h1
  refine Ok.loop (fun m i g => fX12_laysTable_L7 N s be c t (fX12_laysTable_j48 N s be c t) m (i : Int) r1.1 r1.2 g) 16 (fun i g => ∀ v, v < i → g v = tbS se (tgS sk se we b C F t) (C (16 * t + v)) v) _ ?_ ?_ N 0 tb (by omega) (by omega) (fun v hv2 => by omega)
  · intro m i g hi hI ih
    show Ok (fX12_laysTable_b7 N s be c t _ _ (i : Int) r1.1 r1.2 g) _
    unfold fX12_laysTable_b7
    rw [Int.toNat_natCast]
    have upd : ∀ x, x = tbS se (tgS sk se we b C F t) (C (16 * t + i)) i → ∀ v, v < i + 1 → uZ g i x v = tbS se (tgS sk se we b C F t) (C (16 * t + v)) v := fun x hx v hv2 => by
      by_cases q3 : v = i
      · rw [q3, uZ_at]; exact hx
      · rw [uZ_ne q3]; exact hI v (by omega)
    refine Ok.ltp (by omega) (Ok.bind (isKept_ok hs hse (by omega)) (fun r3 h3 => ?_))
    rcases h3 with ⟨h3, q⟩ | ⟨h3, q⟩
    · refine Ok.eqn (by omega) (Ok.gd (by omega) (ih _ (upd _ ?_)))
      unfold tbS; rw [if_pos q]
    · refine Ok.eqp h3 (Ok.bind (cumAt_ok hc hF ht hi) (fun r5 h5 => ?_))
      have hCi := hC (16 * t + i) (by omega)
      have hG15 : r1.2 15 = (S : Int) := by rw [h1b 15 (by omega), tgS_15 h0 hM ht]
      have hmm := (hM t ht).1 i 15 (by omega) (by omega)
      rw [(hM t ht).2] at hmm
      refine Ok.bind (boundedTo_ok hs hse (by omega) (fun v hv2 => by rw [h1b v hv2]; exact tgS_b h0 hw hse.1.2 hC hF ht hv2) (by omega) (by omega) hN) (fun r6 h6 => Ok.gd (by omega) (ih _ (upd _ ?_)))
      unfold tbS
      rw [if_neg q, h6, h5, lsF_cong (G := r1.2) (G' := tgS sk se we b C F t) (fun x hx => h1b x (by omega))]
  · intro m g hI
    show Ok (fX12_laysTable_b7 N s be c t _ _ ((16 : Nat) : Int) r1.1 r1.2 g) _
    unfold fX12_laysTable_b7
    exact Ok.ltn (by omega) (Ok.ret ⟨h1a, h1b, hI⟩)
theorem makeTable_ok {N F S t : Nat} {C c se tg tb : Nat → Int} (hse : SeV se) (hc : CR C F c) (hC : RowB C) (hM : RowM C F S) (hF : F ≤ 24) (ht : t < F) (hG : ∀ v, v < 16 → 0 ≤ tg (16 * t + v) ∧ tg (16 * t + v) ≤ 64) (hN : 40 < N) : Ok (fX1_makeTable N tg c se tb t) (fun g => (∀ v, v < 16 → g (16 * t + v) = tbS se (fun v => tg (16 * t + v)) (C (16 * t + v)) v) ∧ RowOut t g tb) := by
  unfold fX1_makeTable
  refine Ok.loop (fun m i (y : Nat × (Nat → Int)) => fX1_makeTable_L11 N tg c se t (fX1_makeTable_j92 N tg c se t) m (t * 16 : Int) (y.1 : Int) (i : Int) y.2) 16 (fun i y => y.1 ≤ 15 ∧ (i < 16 → ∀ x, x < y.1 → tg (16 * t + x) < C (16 * t + i)) ∧ (∀ v, v < i → y.2 (16 * t + v) = tbS se (fun v => tg (16 * t + v)) (C (16 * t + v)) v) ∧ RowOut t y.2 tb) _ ?_ ?_ N 0 (0, tb) (by omega) (by omega) ⟨by omega, fun _ x hx => absurd hx (by show ¬ x < 0; omega), fun v hv => by omega, fun j _ => rfl⟩
  · intro m i y hi hI ih
    obtain ⟨i1, i2, i3, i4⟩ := hI
    have i2 := i2 hi
    show Ok (fX1_makeTable_b11 N tg c se t _ _ (t * 16 : Int) (y.1 : Int) (i : Int) y.2) _
    unfold fX1_makeTable_b11
    have e1 : ((t : Int) * 16 + (i : Int)).toNat = 16 * t + i := by omega
    have hCi := hC (16 * t + i) (by omega)
    refine Ok.ltp (by omega) ?_
    obtain ⟨e, he⟩ : ∃ e : Nat, e = lsF (fun v => tg (16 * t + v)) (C (16 * t + i)) 15 := ⟨_, rfl⟩
    have hge : y.1 ≤ e := by rw [he]; exact lsF_ge (G := fun v => tg (16 * t + v)) (m := C (16 * t + i)) i1 i2
    obtain ⟨l1, l2, l3⟩ : e ≤ 15 ∧ (∀ x, x < e → tg (16 * t + x) < C (16 * t + i)) ∧ (e < 15 → C (16 * t + i) ≤ tg (16 * t + e)) := by rw [he]; exact lsF_spec (fun v => tg (16 * t + v)) (C (16 * t + i)) 15
    have upd : ∀ x, x = tbS se (fun v => tg (16 * t + v)) (C (16 * t + i)) i → (∀ v, v < i + 1 → uZ y.2 (16 * t + i) x (16 * t + v) = tbS se (fun v => tg (16 * t + v)) (C (16 * t + v)) v) ∧ RowOut t (uZ y.2 (16 * t + i) x) tb := fun x hx => ⟨fun v hv2 => by
      by_cases q3 : v = i
      · rw [q3, uZ_at]; exact hx
      · rw [uZ_ne (by omega)]; exact i3 v (by omega), fun j hj => by rw [uZ_ne (by omega)]; exact i4 j hj⟩
    have done : Ok (fX1_makeTable_j55 N tg c se t (fX1_makeTable_L11 N tg c se t (fX1_makeTable_j92 N tg c se t) m) (fX1_makeTable_j92 N tg c se t) (t * 16 : Int) (e : Int) (i : Int) y.2) (fun g => (∀ v, v < 16 → g (16 * t + v) = tbS se (fun v => tg (16 * t + v)) (C (16 * t + v)) v) ∧ RowOut t g tb) := by
      have nxt : i + 1 < 16 → ∀ x, x < e → tg (16 * t + x) < C (16 * t + (i + 1)) := fun z x hx => by
        have a1 := l2 x hx
        have a2 := (hM t ht).1 i (i + 1) (by omega) z
        omega
      unfold fX1_makeTable_j55
      rw [e1]
      refine Ok.bind (keeps_ok hse (by omega)) (fun r6 h6 => ?_)
      rcases h6 with ⟨h6, q⟩ | ⟨h6, q⟩
      · refine Ok.eqn (by omega) (Ok.gd (by omega) ?_)
        obtain ⟨u1, u2⟩ := upd (i : Int) (by unfold tbS; rw [if_pos q])
        exact ih (e, uZ y.2 (16 * t + i) (i : Int)) ⟨l1, nxt, u1, u2⟩
      · refine Ok.eqp h6 (Ok.bind (bounded_ok hse (by omega) (by omega)) (fun r8 h8 => Ok.gd (by omega) ?_))
        obtain ⟨u1, u2⟩ := upd r8 (by unfold tbS; rw [if_neg q, ← he]; exact h8)
        exact ih (e, uZ y.2 (16 * t + i) r8) ⟨l1, nxt, u1, u2⟩
    refine Ok.loop (fun n w (_ : Unit) => fX1_makeTable_L18 N tg c se t (fX1_makeTable_j55 N tg c se t (fX1_makeTable_L11 N tg c se t (fX1_makeTable_j92 N tg c se t) m) (fX1_makeTable_j92 N tg c se t)) n (t * 16 : Int) (w : Int) (i : Int) y.2) e (fun w _ => True) _ ?_ ?_ N y.1 () hge (by omega) trivial
    · intro n w z hw _ ih2
      show Ok (fX1_makeTable_b18 N tg c se t _ _ (t * 16 : Int) (w : Int) (i : Int) y.2) _
      unfold fX1_makeTable_b18
      have e2 : ((t : Int) * 16 + (w : Int)).toNat = 16 * t + w := by omega
      rw [e1, e2, hc t i ht hi]
      have hgw := hG w (by omega)
      have hlw := l2 w hw
      exact Ok.ltp (by omega) (Ok.gd (by omega) (Ok.gd (by omega) (Ok.ltp (by omega) (ih2 () trivial))))
    · intro n z _
      show Ok (fX1_makeTable_b18 N tg c se t _ _ (t * 16 : Int) (e : Int) (i : Int) y.2) _
      unfold fX1_makeTable_b18
      have e2 : ((t : Int) * 16 + (e : Int)).toNat = 16 * t + e := by omega
      rw [e1, e2, hc t i ht hi]
      have hgw := hG e (by omega)
      rcases Nat.lt_or_ge e 15 with zz | zz
      · have l4 := l3 zz
        exact Ok.ltp (by omega) (Ok.gd (by omega) (Ok.gd (by omega) (Ok.ltn (by omega) done)))
      · exact Ok.ltn (by omega) done
  · intro m y hI
    obtain ⟨i1, i2, i3, i4⟩ := hI
    show Ok (fX1_makeTable_b11 N tg c se t _ _ (t * 16 : Int) (y.1 : Int) ((16 : Nat) : Int) y.2) _
    unfold fX1_makeTable_b11
    exact Ok.ltn (by omega) (Ok.ret ⟨i3, i4⟩)
end PA
