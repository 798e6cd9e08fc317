/-! Measures of a film: means, windows, changes, flicker, flashes; what is taken over. -/
section PE
theorem num_CU {d : Nat → Int} {S t v : Nat} (hd : ∀ p, p < S → 0 ≤ d (64 * t + p)) (hv : v < 16) : numS (CU d S) t v = cntS d S t v := by
  unfold numS
  by_cases q : v = 0
  · rw [q, if_pos rfl, CU_at _ _ _ _ (by omega), cumS_zero hd]; omega
  · rw [if_neg q]
    obtain ⟨w, rfl⟩ : ∃ w, v = w + 1 := ⟨v - 1, by omega⟩
    rw [show 16 * t + (w + 1) - 1 = 16 * t + w by omega, CU_at _ _ _ _ hv, CU_at _ _ _ _ (by omega), cumS_succ]; omega
theorem sI_pick {x : Nat} {n : Nat} : sI (fun v => (v : Int) * if (x : Int) = (v : Int) then 1 else 0) n = if x < n then (x : Int) else 0 := by
  induction n with
  | zero => rw [if_neg (by omega)]; rfl
  | succ n ih =>
    rw [sI_succ, ih]
    by_cases q : x = n
    · rw [if_neg (by omega), if_pos (by omega), if_pos (by omega), q]; omega
    · rw [if_neg (c := (x : Int) = (n : Int)) (by omega), Int.mul_zero]
      by_cases q2 : x < n
      · rw [if_pos q2, if_pos (by omega)]; omega
      · rw [if_neg q2, if_neg (by omega)]; rfl
theorem mean_cnt {d : Nat → Int} {t : Nat} : ∀ S : Nat, (∀ p, p < S → 0 ≤ d (64 * t + p) ∧ d (64 * t + p) ≤ 15) → sI (fun v => (v : Int) * cntS d S t v) 16 = meanS d S t
  | 0, _ => sI_zero (fun k _ => Int.mul_zero _)
  | S + 1, h => by
    have ih := mean_cnt S (fun p hp => h p (by omega))
    have h0 := h S (by omega)
    obtain ⟨x, hx⟩ : ∃ x : Nat, d (64 * t + S) = (x : Int) := ⟨(d (64 * t + S)).toNat, by omega⟩
    have e1 : meanS d (S + 1) t = meanS d S t + d (64 * t + S) := rfl
    have e2 : sI (fun v => (v : Int) * cntS d (S + 1) t v) 16 = sI (fun v => (v : Int) * cntS d S t v + (v : Int) * if (x : Int) = (v : Int) then 1 else 0) 16 := sI_cong (fun v _ => by
      have e3 : cntS d (S + 1) t v = cntS d S t v + if d (64 * t + S) = (v : Int) then 1 else 0 := rfl
      rw [e3, hx, Int.mul_add])
    rw [e2, sI_add, ih, sI_pick, if_pos (by omega), e1, hx]
theorem meanC_CU {d : Nat → Int} {S t : Nat} (h : ∀ p, p < S → 0 ≤ d (64 * t + p) ∧ d (64 * t + p) ≤ 15) : meanC (CU d S) t = meanS d S t := by
  rw [← mean_cnt S h]
  exact sI_cong (fun v hv => by rw [num_CU (fun p hp => (h p hp).1) hv])
theorem meanC_cong {C c : Nat → Int} {F t : Nat} (h : CR C F c) (ht : t < F) : meanC c t = meanC C t := sI_cong (fun v hv => by rw [h.num ht hv])
theorem shadesS_cong {C c : Nat → Int} {F t : Nat} (h : CR C F c) (ht : t < F) : shadesS c t = shadesS C t := sI_cong (fun v hv => by rw [h.num ht hv])
theorem meanS_b {d : Nat → Int} {S t : Nat} (hS : S ≤ 64) (h : ∀ p, p < S → 0 ≤ d (64 * t + p) ∧ d (64 * t + p) ≤ 15) : 0 ≤ meanS d S t ∧ meanS d S t ≤ 960 := by
  have := sI_bound (f := fun p => d (64 * t + p)) (c := 15) (n := S) h
  unfold meanS
  omega
theorem cmean_ok {N : Nat} {d cu sk se we : Nat → Int} {W H F : Nat} {c : Nat → Int} {t : Nat} (hv : FV d cu sk se we W H F) (hc : CR (CU d (W * H)) F c) (ht : t < F) (hN : 20 < N) : Ok (fX9_mean N c t) (fun r => r = meanS d (W * H) t) := by
  have hF := hv.2.2.1
  refine Ok.mono (mean_ok (by omega) hN) (fun r hr => ?_)
  rw [hr, meanC_cong hc ht, meanC_CU (hv.dB ht)]
theorem windowSize_ok {N F t : Nat} {b : Nat → Bool} {many : Int} {so fo se sk : Nat → Int} (hR : ScR b F many so fo) (h0 : b 0 = true) (hF : F ≤ 24) (ht : t < F) (hse : SeV se) (hsk : ∀ u, u < 24 → sk u = 0 ∨ sk u = 1) (hN : 40 < N) : Ok (fX1_windowSize N so fo se sk t) (fun r => r = wiS sk se b F t) := by
  unfold fX1_windowSize
  obtain ⟨r, hr⟩ : ∃ r : Nat, se 0 = (r : Int) := ⟨(se 0).toNat, by have := hse.1; omega⟩
  have hr3 : r ≤ 3 := by have := hse.1; omega
  have hrn : (se 0).toNat = r := by omega
  refine Ok.bind (wStart_ok hR h0 hF ht hr hr3) (fun r1 h1 => ?_)
  have hl := lsS_spec (b := b) F ht
  have hst := stS_spec h0 t
  have hwl : t ≤ wlS b F t r ∧ wlS b F t r < F := by
    unfold wlS
    by_cases q : t + r < lsS b t F
    · rw [if_pos q]; omega
    · rw [if_neg q]; omega
  have hwb : wbS b t r ≤ t := by
    unfold wbS
    by_cases q : stS b t < t - r
    · rw [if_pos q]; omega
    · rw [if_neg q]; omega
  have hb : ∀ n, n ≤ 24 → 0 ≤ sI (wtS sk se (fun _ => 1) b F t) n ∧ sI (wtS sk se (fun _ => 1) b F t) n ≤ 24 := fun n hn => by
    have := sI_bound (f := wtS sk se (fun _ => 1) b F t) (c := 1) (n := n) (fun u hu => by
      unfold wtS
      by_cases q : stS b t ≤ u ∧ u ≤ lsS b t F ∧ t ≤ u + (se 0).toNat ∧ u ≤ t + (se 0).toNat ∧ sk u = 0
      · rw [if_pos q]; show (0 : Int) ≤ 1 ∧ (1 : Int) ≤ 1; omega
      · rw [if_neg q]; omega)
    omega
  rw [h1]
  refine Ok.loop (fun m i a => fX1_windowSize_L10 N so fo se sk t (fX1_windowSize_j39 N so fo se sk t) m a (i : Int)) (wlS b F t r + 1) (fun i a => wbS b t r ≤ i ∧ a = sI (wtS sk se (fun _ => 1) b F t) i) _ ?_ ?_ N (wbS b t r) 0 (by omega) (by omega) ⟨Nat.le_refl _, (sI_zero (fun k hk => wtS_out (Or.inl (by rw [hrn]; exact hk)))).symm⟩
  · intro m i a hi hI ih
    obtain ⟨hwi, hI⟩ := hI
    show Ok (fX1_windowSize_b10 N so fo se sk t _ _ a (i : Int)) _
    unfold fX1_windowSize_b10
    refine Ok.bind (wLast_ok hR hF ht hr hr3) (fun r2 h2 => ?_)
    rw [h2, Int.toNat_natCast]
    repeat (first | refine Ok.gd (by omega) ?_ | refine Ok.ltp (by omega) ?_ | refine Ok.ltn (by omega) ?_ | refine Ok.eqp (by omega) ?_ | refine Ok.eqn (by omega) ?_)
    refine ih _ ⟨by omega, ?_⟩
    rw [sI_succ, ← hI, wtS_in (by rw [hrn]; exact hwi) (by rw [hrn]; omega)]
    rcases hsk i (by omega) with q | q
    · rw [q, if_pos rfl]; omega
    · rw [q, if_neg (by omega)]; omega
  · intro m a hI
    obtain ⟨hwi, hI⟩ := hI
    show Ok (fX1_windowSize_b10 N so fo se sk t _ _ a ((wlS b F t r + 1 : Nat) : Int)) _
    unfold fX1_windowSize_b10 fX1_windowSize_j39
    refine Ok.bind (wLast_ok hR hF ht hr hr3) (fun r2 h2 => ?_)
    rw [h2]
    refine Ok.ltp (by omega) (Ok.ret ?_)
    have e1 : a = wcS sk se b F t := by
      unfold wcS
      rw [hI, sI_tail (a := wlS b F t r + 1) (n := F) (by omega) (fun k h1 h2 => wtS_out (Or.inr (by rw [hrn]; omega)))]
    have hb2 := hb (wlS b F t r + 1) (by omega)
    rw [← hI] at hb2
    rw [mxZ_max (by omega)]
    unfold wiS
    rw [← e1]
    by_cases q : a = 0
    · rw [if_pos q, if_pos (by omega)]
    · rw [if_neg q]
      by_cases q2 : a < 1
      · omega
      · rw [if_neg q2]
def chS (d e : Nat → Int) (S t : Nat) : Int := sI (fun p => if e (64 * t + p) = d (64 * t + p) then 0 else 1) S
theorem chS_b (d e : Nat → Int) (S t : Nat) : 0 ≤ chS d e S t ∧ chS d e S t ≤ S := by
  have h := sI_bound (f := fun p => if e (64 * t + p) = d (64 * t + p) then (0 : Int) else 1) (c := 1) (n := S) (fun q _ => by by_cases z : e (64 * t + q) = d (64 * t + q) <;> simp only [z, if_true, if_false] <;> omega)
  have e1 : (S : Int) * 1 = S := Int.mul_one _
  rw [e1] at h; exact h
theorem chS_0 {d e : Nat → Int} {t : Nat} : ∀ {S : Nat}, chS d e S t = 0 → ∀ p, p < S → e (64 * t + p) = d (64 * t + p)
  | 0, _, p, hp => by omega
  | S + 1, h, p, hp => by
    have e1 : chS d e (S + 1) t = chS d e S t + if e (64 * t + S) = d (64 * t + S) then 0 else 1 := rfl
    have hb := chS_b d e S t
    rw [e1] at h
    by_cases q : e (64 * t + S) = d (64 * t + S)
    · rw [if_pos q] at h
      by_cases q2 : p = S
      · rw [q2]; exact q
      · exact chS_0 (S := S) (by omega) p (by omega)
    · rw [if_neg q] at h; omega
theorem chS_cong {d e d' e' : Nat → Int} {S t : Nat} (h1 : ∀ p, p < S → d (64 * t + p) = d' (64 * t + p)) (h2 : ∀ p, p < S → e (64 * t + p) = e' (64 * t + p)) : chS d e S t = chS d' e' S t := sI_cong (fun p hp => by rw [h1 p hp, h2 p hp])
def DB (e : Nat → Int) (S F : Nat) : Prop := ∀ t p, t < F → p < S → 0 ≤ e (64 * t + p) ∧ e (64 * t + p) ≤ 15
theorem changedIn_ok {N W H F t : Nat} {d e : Nat → Int} (hS : W * H ≤ 64) (hF : F ≤ 24) (ht : t < F) (hd : DB d (W * H) F) (he : DB e (W * H) F) (hN : 80 < N) : Ok (fX1_changedIn N W H e d t) (fun r => r = chS d e (W * H) t) := by
  unfold fX1_changedIn
  refine Ok.loop (fun m i a => fX1_changedIn_L5 N W H e d t (fX1_changedIn_j54 N W H e d t) m a (i : Int)) (W * H) (fun i a => a = chS d e i t) _ ?_ ?_ N 0 0 (by omega) (by omega) rfl
  · intro m i a hi hI ih
    show Ok (fX1_changedIn_b5 N W H e d t _ _ a (i : Int)) _
    unfold fX1_changedIn_b5
    refine Ok.bind fsize_ok (fun r1 h1 => ?_)
    have e1 : ((t : Int) * 64 + (i : Int)).toNat = 64 * t + i := by omega
    have h2 := hd t i ht hi
    have h3 := he t i ht hi
    rw [h1, e1]
    repeat (first | refine Ok.gd (by omega) ?_ | refine Ok.ltp (by omega) ?_ | refine Ok.ltn (by omega) ?_ | refine Ok.eqp (by omega) ?_ | refine Ok.eqn (by omega) ?_)
    have e2 : chS d e (i + 1) t = chS d e i t + if e (64 * t + i) = d (64 * t + i) then 0 else 1 := rfl
    refine Ok.eq (by omega) (fun q => ih _ ?_) (fun q => ih _ ?_)
    · rw [e2, if_pos q, hI]
    · rw [e2, if_neg q, hI]
  · intro m a hI
    show Ok (fX1_changedIn_b5 N W H e d t _ _ a ((W * H : Nat) : Int)) _
    unfold fX1_changedIn_b5 fX1_changedIn_j54
    refine Ok.bind fsize_ok (fun r1 h1 => ?_)
    rw [h1]
    exact Ok.ltn (by omega) (Ok.ret hI)
theorem changedDots_ok {N W H F : Nat} {d e : Nat → Int} (hS : W * H ≤ 64) (hF : F ≤ 24) (hd : DB d (W * H) F) (he : DB e (W * H) F) (hN : 80 < N) : Ok (fX1_changedDots N W H F e d) (fun r => r = sI (chS d e (W * H)) F) := by
  unfold fX1_changedDots
  refine Ok.loop (fun m i a => fX1_changedDots_L4 N W H F e d (fX1_changedDots_j27 N W H F e d) m a (i : Int)) F (fun i a => a = sI (chS d e (W * H)) i) _ ?_ ?_ N 0 0 (by omega) (by omega) rfl
  · intro m i a hi hI ih
    show Ok (fX1_changedDots_b4 N W H F e d _ _ a (i : Int)) _
    unfold fX1_changedDots_b4
    refine Ok.ltp (by omega) (Ok.bind (changedIn_ok hS hF hi hd he hN) (fun r2 h2 => ih _ ?_))
    rw [sI_succ, hI, h2]
  · intro m a hI
    show Ok (fX1_changedDots_b4 N W H F e d _ _ a (F : Int)) _
    unfold fX1_changedDots_b4 fX1_changedDots_j27
    exact Ok.ltn (by omega) (Ok.ret hI)
theorem changedOf_ok {N t : Nat} {d cu sk se we : Nat → Int} {W H F : Nat} {s ev : Nat → Int} (hs : SR s d cu sk se we W H F) (hv : FV d cu sk se we W H F) (ht : t < F) (he : DB ev (W * H) F) (hN : 80 < N) : Ok (fX12_changedOf N s ev t) (fun r => r = chS d ev (W * H) t) := by
  have hF := hv.2.2.1
  have hS := size_b hv.1 hv.2.1
  unfold fX12_changedOf
  refine Ok.loop (fun m i a => fX12_changedOf_L4 N s ev t (fX12_changedOf_j46 N s ev t) m a (i : Int)) (W * H) (fun i a => a = chS d ev i t) _ ?_ ?_ N 0 0 (by omega) (by omega) rfl
  · intro m i a hi hI ih
    show Ok (fX12_changedOf_b4 N s ev t _ _ a (i : Int)) _
    unfold fX12_changedOf_b4
    refine Ok.bind (mdots_ok hs) (fun r1 h1 => ?_)
    have e1 : (64 * (t : Int) + (i : Int)).toNat = 64 * t + i := by omega
    have h2 := hv.dB ht i hi
    have h3 := he t i ht hi
    rw [h1, e1]
    refine Ok.ltp (by omega) (Ok.gd (by omega) (Ok.bind (mdotAt_ok hs hv ht hi) (fun r4 h4 => ?_)))
    have e2 : chS d ev (i + 1) t = chS d ev i t + if ev (64 * t + i) = d (64 * t + i) then 0 else 1 := rfl
    refine Ok.eq (by omega) (fun q => ih _ ?_) (fun q => ih _ ?_)
    · rw [e2, if_pos (by rw [q, h4]), hI]
    · rw [e2, if_neg (by rw [← h4]; exact q), hI]
  · intro m a hI
    show Ok (fX12_changedOf_b4 N s ev t _ _ a ((W * H : Nat) : Int)) _
    unfold fX12_changedOf_b4 fX12_changedOf_j46
    refine Ok.bind (mdots_ok hs) (fun r1 h1 => ?_)
    rw [h1]
    exact Ok.ltn (by omega) (Ok.ret hI)
def flS (b : Nat → Bool) (C : Nat → Int) (n : Nat) : Int := sI (fun k => if b (k + 1) then 0 else gapS C k (k + 1)) n
theorem flS_b {b : Nat → Bool} {C : Nat → Int} (hC : RowB C) {n : Nat} (hn : n < 24) : 0 ≤ flS b C n ∧ flS b C n ≤ 24576 := by
  have := sI_bound (f := fun k => if b (k + 1) then (0 : Int) else gapS C k (k + 1)) (c := 1024) (n := n) (fun k hk => by
    have := gapS_b hC (t := k) (u := k + 1) (by omega) (by omega)
    cases b (k + 1)
    · exact this
    · exact ⟨Int.le_refl _, by omega⟩)
  unfold flS
  omega
theorem flickerOf_ok {N F : Nat} {b : Nat → Bool} {many : Int} {so fo C c : Nat → Int} (hR : ScR b F many so fo) (h0 : b 0 = true) (hF : F ≤ 24) (hc : CR C F c) (hC : RowB C) (hB : RowB c) (hN : 40 < N) : Ok (fX1_flickerOf N so fo c F) (fun r => r = flS b C (F - 1)) := by
  unfold fX1_flickerOf
  refine Ok.loop (fun m i a => fX1_flickerOf_L5 N so fo c F (fX1_flickerOf_j42 N so fo c F) m a ((i + 1 : Nat) : Int)) (F - 1) (fun i a => a = flS b C i) _ ?_ ?_ N 0 0 (by omega) (by omega) rfl
  · intro m i a hi hI ih
    show Ok (fX1_flickerOf_b5 N so fo c F _ _ a ((i + 1 : Nat) : Int)) _
    unfold fX1_flickerOf_b5
    have e2 : flS b C (i + 1) = flS b C i + if b (i + 1) then 0 else gapS C i (i + 1) := rfl
    refine Ok.ltp (by omega) (Ok.bind (begins_ok (by omega) hF h0 hR) (fun r2 h2 => ?_))
    rw [show ((i + 1 : Nat) : Int) - 1 = (i : Int) by omega, show ((i + 1 : Nat) : Int) + 1 = ((i + 1 + 1 : Nat) : Int) by omega]
    cases hb : b (i + 1)
    · rw [hb] at h2 e2
      refine Ok.eqp h2 (Ok.bind (gapC_ok hc hC hB hF (by omega) (by omega) (by omega)) (fun r4 h4 => ih _ ?_))
      rw [e2, hI, h4.1]; rfl
    · rw [hb] at h2 e2
      have h2' : r2 = 1 := h2
      refine Ok.eqn (by omega) (ih _ ?_)
      rw [e2, hI]; show _ = _ + 0; omega
  · intro m a hI
    show Ok (fX1_flickerOf_b5 N so fo c F _ _ a ((F - 1 + 1 : Nat) : Int)) _
    unfold fX1_flickerOf_b5 fX1_flickerOf_j42
    exact Ok.ltn (by omega) (Ok.ret hI)
theorem flickerBy_ok {N F : Nat} {b : Nat → Bool} {s be C c : Nat → Int} (hb : BeR b F be) (s2 : s 2 = (F : Int)) (hF : F ≤ 24) (hc : CR C F c) (hC : RowB C) (hN : 40 < N) : Ok (fX12_flickerBy N s be c) (fun r => r = flS b C (F - 1)) := by
  unfold fX12_flickerBy
  refine Ok.loop (fun m i a => fX12_flickerBy_L4 N s be c (fX12_flickerBy_j44 N s be c) m a ((i + 1 : Nat) : Int)) (F - 1) (fun i a => a = flS b C i) _ ?_ ?_ N 0 0 (by omega) (by omega) rfl
  · intro m i a hi hI ih
    show Ok (fX12_flickerBy_b4 N s be c _ _ a ((i + 1 : Nat) : Int)) _
    unfold fX12_flickerBy_b4
    have e2 : flS b C (i + 1) = flS b C i + if b (i + 1) then 0 else gapS C i (i + 1) := rfl
    rw [(show ((2 : Int)).toNat = 2 from rfl), s2, Int.toNat_natCast]
    refine Ok.gd (by omega) (Ok.ltp (by omega) (Ok.gd (by omega) ?_))
    rw [show ((i + 1 : Nat) : Int) - 1 = (i : Int) by omega, show ((i + 1 : Nat) : Int) + 1 = ((i + 1 + 1 : Nat) : Int) by omega]
    rcases hb.cases (t := i + 1) (by omega) with ⟨q, q2⟩ | ⟨q, q2⟩
    · rw [q] at e2
      refine Ok.eqn (by omega) (ih _ ?_)
      rw [e2, hI]; rfl
    · rw [q] at e2
      refine Ok.eqp q2 (Ok.bind (apartC_ok hc hC hF (by omega) (by omega) (by omega)) (fun r4 h4 => ih _ ?_))
      rw [e2, hI, h4.1, gapS_sym]; rfl
  · intro m a hI
    show Ok (fX12_flickerBy_b4 N s be c _ _ a ((F - 1 + 1 : Nat) : Int)) _
    unfold fX12_flickerBy_b4 fX12_flickerBy_j44
    rw [(show ((2 : Int)).toNat = 2 from rfl), s2]
    exact Ok.gd (by omega) (Ok.ltn (by omega) (Ok.ret hI))
/-- a flash -/
def faS (b : Nat → Bool) (me : Nat → Int) (t : Nat) (much : Int) : Prop := b t = false ∧ b (t + 1) = false ∧ much < ab (me t - me (t - 1)) ∧ much < ab (me t - me (t + 1)) ∧ ab (me (t - 1) - me (t + 1)) ≤ much
theorem flashes_ok {N t : Nat} {d cu sk se we : Nat → Int} {W H F : Nat} {c so fo : Nat → Int} {many much : Int} (hv : FV d cu sk se we W H F) (hl : LkR d cu sk se we W H F c many so fo) (ht0 : 1 ≤ t) (ht : t + 1 < F) (hm : 0 ≤ much ∧ much < 2147483648) (hN : 40 < N) : Ok (fX1_flashes N so fo c t much) (fun r => (r = 1 ∧ faS (BS d cu se (W * H)) (meanS d (W * H)) t much) ∨ (r = 0 ∧ ¬ faS (BS d cu se (W * H)) (meanS d (W * H)) t much)) := by
  have hF := hv.2.2.1
  have hS := size_b hv.1 hv.2.1
  unfold fX1_flashes faS
  refine Ok.bind (begins_ok (by omega) hF (BS_0 _ _ _ _) hl.2.2) (fun r1 h1 => ?_)
  cases hb : BS d cu se (W * H) t
  · rw [hb] at h1
    refine Ok.eqp h1 ?_
    rw [show (t : Int) + 1 = ((t + 1 : Nat) : Int) by omega, show (t : Int) - 1 = ((t - 1 : Nat) : Int) by omega]
    refine Ok.bind (begins_ok (by omega) hF (BS_0 _ _ _ _) hl.2.2) (fun r3 h3 => ?_)
    cases hb3 : BS d cu se (W * H) (t + 1)
    · rw [hb3] at h3
      refine Ok.eqp h3 ?_
      refine Ok.bind (cmean_ok hv hl.1 (by omega) (by omega)) (fun r5 h5 => Ok.bind (cmean_ok hv hl.1 (by omega) (by omega)) (fun r6 h6 => Ok.bind (cmean_ok hv hl.1 (by omega) (by omega)) (fun r7 h7 => ?_)))
      have b5 := meanS_b hS.2 (hv.dB (t := t - 1) (by omega))
      have b6 := meanS_b hS.2 (hv.dB (t := t) (by omega))
      have b7 := meanS_b hS.2 (hv.dB (t := t + 1) (by omega))
      rw [← h5] at b5; rw [← h6] at b6; rw [← h7] at b7
      rw [← h5, ← h6, ← h7, abZ_ab (by omega), abZ_ab (by omega), abZ_ab (by omega)]
      have c1 := ab_nn (r6 - r5); have c2 := ab_nn (r6 - r7); have c3 := ab_nn (r5 - r7)
      have d1 := ab_le (z := r6 - r5) (c := 960) (by omega)
      have d2 := ab_le (z := r6 - r7) (c := 960) (by omega)
      have d3 := ab_le (z := r5 - r7) (c := 960) (by omega)
      refine Ok.lt (by omega) (fun q1 => ?_) (fun q1 => Ok.ret (Or.inr ⟨rfl, fun z => by omega⟩))
      refine Ok.lt (by omega) (fun q2 => ?_) (fun q2 => Ok.ret (Or.inr ⟨rfl, fun z => by omega⟩))
      refine Ok.lt (by omega) (fun q3 => Ok.ret (Or.inr ⟨rfl, fun z => by omega⟩)) (fun q3 => Ok.ret (Or.inl ⟨rfl, rfl, rfl, q1, q2, q3⟩))
    · rw [hb3] at h3
      have h3' : r3 = 1 := h3
      exact Ok.eqn (by omega) (Ok.ret (Or.inr ⟨rfl, fun z => absurd z.2.1 (by decide)⟩))
  · rw [hb] at h1
    have h1' : r1 = 1 := h1
    exact Ok.eqn (by omega) (Ok.ret (Or.inr ⟨rfl, fun z => absurd z.1 (by decide)⟩))
theorem isFlash_ok {N t : Nat} {d cu sk se we : Nat → Int} {W H F : Nat} {me c be : Nat → Int} {much : Int} (hv : FV d cu sk se we W H F) (hl : MlR d cu sk se we W H F me c be) (ht0 : 1 ≤ t) (ht : t + 1 < F) (hm : 0 ≤ much ∧ much < 2147483648) : Ok (fX12_isFlash N be me t much) (fun r => (r = 1 ∧ faS (BS d cu se (W * H)) (meanS d (W * H)) t much) ∨ (r = 0 ∧ ¬ faS (BS d cu se (W * H)) (meanS d (W * H)) t much)) := by
  have hF := hv.2.2.1
  have hS := size_b hv.1 hv.2.1
  unfold fX12_isFlash faS
  rw [show (t : Int) + 1 = ((t + 1 : Nat) : Int) by omega, show (t : Int) - 1 = ((t - 1 : Nat) : Int) by omega]
  rw [Int.toNat_natCast, Int.toNat_natCast, Int.toNat_natCast, hl.1 t (by omega), hl.1 (t - 1) (by omega), hl.1 (t + 1) (by omega)]
  have b5 := meanS_b hS.2 (hv.dB (t := t - 1) (by omega))
  have b6 := meanS_b hS.2 (hv.dB (t := t) (by omega))
  have b7 := meanS_b hS.2 (hv.dB (t := t + 1) (by omega))
  refine Ok.gd (by omega) ?_
  rcases hl.2.2.cases (t := t) (by omega) with ⟨q, q2⟩ | ⟨q, q2⟩
  · exact Ok.eqn (by omega) (Ok.ret (Or.inr ⟨rfl, fun z => by rw [q] at z; exact absurd z.1 (by decide)⟩))
  · refine Ok.eqp q2 (Ok.gd (by omega) ?_)
    rcases hl.2.2.cases (t := t + 1) (by omega) with ⟨p, p2⟩ | ⟨p, p2⟩
    · exact Ok.eqn (by omega) (Ok.ret (Or.inr ⟨rfl, fun z => by rw [p] at z; exact absurd z.2.1 (by decide)⟩))
    · refine Ok.eqp p2 (Ok.gd (by omega) (Ok.gd (by omega) (Ok.bind (off_ok (by omega)) (fun r7 h7 => ?_))))
      have c1 := ab_nn (meanS d (W * H) t - meanS d (W * H) (t - 1))
      have c2 := ab_nn (meanS d (W * H) t - meanS d (W * H) (t + 1))
      have c3 := ab_nn (meanS d (W * H) (t - 1) - meanS d (W * H) (t + 1))
      have d1 := ab_le (z := meanS d (W * H) t - meanS d (W * H) (t - 1)) (c := 960) (by omega)
      have d2 := ab_le (z := meanS d (W * H) t - meanS d (W * H) (t + 1)) (c := 960) (by omega)
      have d3 := ab_le (z := meanS d (W * H) (t - 1) - meanS d (W * H) (t + 1)) (c := 960) (by omega)
      refine Ok.lt (by omega) (fun q1 => ?_) (fun q1 => Ok.ret (Or.inr ⟨rfl, fun z => by omega⟩))
      refine Ok.gd (by omega) (Ok.gd (by omega) (Ok.bind (off_ok (by omega)) (fun r11 h11 => ?_)))
      refine Ok.lt (by omega) (fun q2 => ?_) (fun q2 => Ok.ret (Or.inr ⟨rfl, fun z => by omega⟩))
      refine Ok.gd (by omega) (Ok.gd (by omega) (Ok.bind (off_ok (by omega)) (fun r15 h15 => ?_)))
      refine Ok.lt (by omega) (fun q3 => Ok.ret (Or.inr ⟨rfl, fun z => by omega⟩)) (fun q3 => Ok.ret (Or.inl ⟨rfl, q, p, by omega, by omega, by omega⟩))
/-- a shade that another one meets -/
def meS (C tb : Nat → Int) (t v : Nat) : Prop := 0 < numS C t v ∧ ∃ w, w < 16 ∧ w ≠ v ∧ 0 < numS C t w ∧ tb w = tb v
theorem meets_ok {N F t v : Nat} {C c tb g : Nat → Int} (hc : CR C F c) (hC : RowB C) (hn : ∀ v, v < 16 → 0 ≤ numS C t v) (hF : F ≤ 24) (ht : t < F) (hv : v < 16) (htb : ∀ v, v < 16 → tb (16 * t + v) = g v) (hg : ∀ v, v < 16 → 0 ≤ g v ∧ g v ≤ 15) (hN : 40 < N) : Ok (fX1_meetsAnother N c tb t v) (fun r => (r = 1 ∧ meS C g t v) ∨ (r = 0 ∧ ¬ meS C g t v)) := by
  unfold fX1_meetsAnother
  refine Ok.bind (number_ok (by omega) hv) (fun r1 h1 => ?_)
  rw [hc.num ht hv] at h1
  have hb := numS_b hC (t := t) (v := v) (by omega) hv
  have hnv := hn v hv
  refine Ok.eq (by omega) (fun q => Ok.ret (Or.inr ⟨rfl, fun z => by have := z.1; omega⟩)) (fun q => ?_)
  refine Ok.loop (fun m i (_ : Unit) => fX1_meetsAnother_L16 N c tb t v (fX1_meetsAnother_j72 N c tb t v) m (i : Int)) 16 (fun i _ => ∀ w, w < i → ¬ (w ≠ v ∧ 0 < numS C t w ∧ g w = g v)) _ ?_ ?_ N 0 () (by omega) (by omega) (fun w hw => by omega)
  · intro m i _ hi hI ih
    show Ok (fX1_meetsAnother_b16 N c tb t v _ _ (i : Int)) _
    unfold fX1_meetsAnother_b16
    refine Ok.ltp (by omega) ?_
    have nx : ¬ (i ≠ v ∧ 0 < numS C t i ∧ g i = g v) → Ok (fX1_meetsAnother_L16 N c tb t v (fX1_meetsAnother_j72 N c tb t v) m ((i : Int) + 1)) (fun r => (r = 1 ∧ meS C g t v) ∨ (r = 0 ∧ ¬ meS C g t v)) := fun hn2 => ih () (fun w hw => by
      by_cases z : w = i
      · rw [z]; exact hn2
      · exact hI w (by omega))
    refine Ok.eq (by omega) (fun q1 => nx (fun z => z.1 (by omega))) (fun q1 => ?_)
    refine Ok.bind (number_ok (by omega) hi) (fun r5 h5 => ?_)
    rw [hc.num ht hi] at h5
    have hb5 := numS_b hC (t := t) (v := i) (by omega) hi
    refine Ok.lt (by omega) (fun q2 => ?_) (fun q2 => nx (fun z => by omega))
    have e1 : ((t : Int) * 16 + (i : Int)).toNat = 16 * t + i := by omega
    have e2 : ((t : Int) * 16 + (v : Int)).toNat = 16 * t + v := by omega
    have g1 := hg i hi
    have g2 := hg v hv
    rw [e1, e2, htb i hi, htb v hv]
    refine Ok.gd (by omega) (Ok.gd (by omega) (Ok.eq (by omega) (fun q3 => ?_) (fun q3 => nx (fun z => q3 z.2.2))))
    exact Ok.ret (Or.inl ⟨rfl, by omega, i, hi, by omega, by omega, q3⟩)
  · intro m _ hI
    show Ok (fX1_meetsAnother_b16 N c tb t v _ _ ((16 : Nat) : Int)) _
    unfold fX1_meetsAnother_b16 fX1_meetsAnother_j72
    refine Ok.ltn (by omega) (Ok.ret (Or.inr ⟨rfl, fun z => ?_⟩))
    obtain ⟨w, w1, w2⟩ := z.2
    exact hI w w1 w2
/-! taking over, in the reference -/
theorem SR.cong {d cu sk se we : Nat → Int} {W H F : Nat} {s d' : Nat → Int} (hs : SR s d cu sk se we W H F) (h : ∀ t p, t < F → p < W * H → d (64 * t + p) = d' (64 * t + p)) : SR s d' cu sk se we W H F := ⟨hs.1, hs.2.1, hs.2.2.1, hs.2.2.2.1, hs.2.2.2.2.1, hs.2.2.2.2.2.1, hs.2.2.2.2.2.2.1, fun t p ht hp => by rw [hs.2.2.2.2.2.2.2 t p ht hp]; exact h t p ht hp⟩
theorem FV.cong {d cu sk se we : Nat → Int} {W H F : Nat} {d' : Nat → Int} (hv : FV d cu sk se we W H F) (h : ∀ t p, t < F → p < W * H → d (64 * t + p) = d' (64 * t + p)) : FV d' cu sk se we W H F := ⟨hv.1, hv.2.1, hv.2.2.1, fun t p ht hp => by rw [← h t p ht hp]; exact hv.2.2.2.1 t p ht hp, hv.2.2.2.2⟩
theorem SR.dot {d cu sk se we : Nat → Int} {W H F : Nat} {s : Nat → Int} {t p : Nat} {x : Int} (hs : SR s d cu sk se we W H F) (hS : W * H ≤ 64) (hp : p < W * H) : SR (uZ s (15 + 64 * t + p) x) (uZ d (64 * t + p) x) cu sk se we W H F := by
  obtain ⟨h1, h2, h3, h4, h5, h6, h7, h8⟩ := hs
  refine ⟨by rw [uZ_ne (by omega)]; exact h1, by rw [uZ_ne (by omega)]; exact h2, by rw [uZ_ne (by omega)]; exact h3, fun k hk => by rw [uZ_ne (by omega)]; exact h4 k hk, fun k hk => by rw [uZ_ne (by omega)]; exact h5 k hk, by rw [uZ_ne (by omega)]; exact h6, by rw [uZ_ne (by omega)]; exact h7, fun u q hu hq => ?_⟩
  by_cases z : 64 * u + q = 64 * t + p
  · rw [z, uZ_at, show 15 + 64 * u + q = 15 + 64 * t + p by omega, uZ_at]
  · rw [uZ_ne z, uZ_ne (by omega)]; exact h8 u q hu hq
theorem FV.dot {d cu sk se we : Nat → Int} {W H F : Nat} {t p : Nat} {x : Int} (hv : FV d cu sk se we W H F) (hp : p < W * H) (hx : 0 ≤ x ∧ x ≤ 15) : FV (uZ d (64 * t + p) x) cu sk se we W H F := ⟨hv.1, hv.2.1, hv.2.2.1, fun u q hu hq => by
  by_cases z : 64 * u + q = 64 * t + p
  · rw [z, uZ_at]; exact hx
  · rw [uZ_ne z]; exact hv.2.2.2.1 u q hu hq, hv.2.2.2.2⟩
def mxS (d e : Nat → Int) (n : Nat) : Nat → Int := fun j => if j < n then e j else d j
theorem mxS_lt {d e : Nat → Int} {n j : Nat} (h : j < n) : mxS d e n j = e j := if_pos h
theorem mxS_ge {d e : Nat → Int} {n j : Nat} (h : n ≤ j) : mxS d e n j = d j := if_neg (by omega)
theorem FV.mx {d cu sk se we : Nat → Int} {W H F : Nat} {e : Nat → Int} {n : Nat} (hv : FV d cu sk se we W H F) (he : DB e (W * H) F) : FV (mxS d e n) cu sk se we W H F := ⟨hv.1, hv.2.1, hv.2.2.1, fun u q hu hq => by
  by_cases z : 64 * u + q < n
  · rw [mxS_lt z]; exact he u q hu hq
  · rw [mxS_ge (by omega)]; exact hv.2.2.2.1 u q hu hq, hv.2.2.2.2⟩
theorem mx_succ {d e : Nat → Int} {n : Nat} {x : Int} (hx : x = e n) (j : Nat) : uZ (mxS d e n) n x j = mxS d e (n + 1) j := by
  by_cases z : j = n
  · rw [z, uZ_at, mxS_lt (by omega), hx]
  · rw [uZ_ne z]
    by_cases z2 : j < n
    · rw [mxS_lt z2, mxS_lt (by omega)]
    · rw [mxS_ge (by omega), mxS_ge (by omega)]
theorem FV.EV_b {d cu sk se we : Nat → Int} {W H F : Nat} (hv : FV d cu sk se we W H F) : DB (EV d cu sk se we W H F) (W * H) F := hv.EV_v.2.2.2.1
theorem takes_ok {N : Nat} {d cu sk se we : Nat → Int} {W H F : Nat} {s me be c tg tb og ec ev : Nat → Int} {wm : Int} (hs : SR s d cu sk se we W H F) (hv : FV d cu sk se we W H F) (hN : 100 < N) : Ok (fX12_takes N wm s me c be tg tb og ec ev) (fun r => r.1 = sI (chS d (EV d cu sk se we W H F) (W * H)) F ∧ SR r.2.2.1 (EV d cu sk se we W H F) cu sk se we W H F) := by
  have hF := hv.2.2.1
  have hS := size_b hv.1 hv.2.1
  unfold fX12_takes
  refine Ok.bind (evensAll_ok hs hv hN) (fun r1 h1 => ?_)
  obtain ⟨-, -, h1⟩ := h1
  have hEb := hv.EV_b
  have hevb : DB r1.2.2.2.2.2.2.2.2 (W * H) F := fun t p ht hp => by rw [h1 t p ht hp]; exact hEb t p ht hp
  refine Ok.loop (fun m i (x : Int × (Nat → Int)) => fX12_takes_L8 N (fX12_takes_j73 N) m x.1 (i : Int) r1.1 x.2 r1.2.1 r1.2.2.1 r1.2.2.2.1 r1.2.2.2.2.1 r1.2.2.2.2.2.1 r1.2.2.2.2.2.2.1 r1.2.2.2.2.2.2.2.1 r1.2.2.2.2.2.2.2.2) F (fun i x => x.1 = sI (chS d (EV d cu sk se we W H F) (W * H)) i ∧ SR x.2 (mxS d (EV d cu sk se we W H F) (64 * i)) cu sk se we W H F) _ ?_ ?_ N 0 (0, s) (by omega) (by omega) ⟨rfl, hs.cong (fun t p _ _ => (mxS_ge (by omega)).symm)⟩
  · intro m i x hi hI ih
    obtain ⟨i1, i2⟩ := hI
    show Ok (fX12_takes_b8 N _ _ x.1 (i : Int) r1.1 x.2 r1.2.1 r1.2.2.1 r1.2.2.2.1 r1.2.2.2.2.1 r1.2.2.2.2.2.1 r1.2.2.2.2.2.2.1 r1.2.2.2.2.2.2.2.1 r1.2.2.2.2.2.2.2.2) _
    unfold fX12_takes_b8
    rw [(show ((2 : Int)).toNat = 2 from rfl), i2.2.2.1]
    refine Ok.gd (by omega) (Ok.ltp (by omega) (Ok.bind (changedOf_ok i2 (hv.mx hEb) hi hevb (by omega)) (fun r4 h4 => ?_)))
    refine Ok.loop (fun n j (y : Nat → Int) => fX12_takes_L28 N (fX12_takes_j67 N (fX12_takes_L8 N (fX12_takes_j73 N) m) (fX12_takes_j73 N)) n (x.1 + r4) (i : Int) (j : Int) r1.1 y r1.2.1 r1.2.2.1 r1.2.2.2.1 r1.2.2.2.2.1 r1.2.2.2.2.2.1 r1.2.2.2.2.2.2.1 r1.2.2.2.2.2.2.2.1 r1.2.2.2.2.2.2.2.2) (W * H) (fun j y => SR y (mxS d (EV d cu sk se we W H F) (64 * i + j)) cu sk se we W H F) _ ?_ ?_ N 0 x.2 (by omega) (by omega) i2
    · intro n j y hj hI2 ih2
      show Ok (fX12_takes_b28 N _ _ (x.1 + r4) (i : Int) (j : Int) r1.1 y r1.2.1 r1.2.2.1 r1.2.2.2.1 r1.2.2.2.2.1 r1.2.2.2.2.2.1 r1.2.2.2.2.2.2.1 r1.2.2.2.2.2.2.2.1 r1.2.2.2.2.2.2.2.2) _
      unfold fX12_takes_b28
      refine Ok.bind (mdots_ok hI2) (fun r5 h5 => ?_)
      have e1 : (64 * (i : Int) + (j : Int)).toNat = 64 * i + j := by omega
      have e2 : (15 + 64 * (i : Int) + (j : Int)).toNat = 15 + 64 * i + j := by omega
      rw [h5, e1, e2]
      repeat (first | refine Ok.gd (by omega) ?_ | refine Ok.ltp (by omega) ?_ | refine Ok.ltn (by omega) ?_ | refine Ok.eqp (by omega) ?_ | refine Ok.eqn (by omega) ?_)
      refine ih2 _ ?_
      exact (hI2.dot (t := i) hS.2 hj).cong (fun t p _ _ => mx_succ (h1 i j hi hj) _)
    · intro n y hI2
      show Ok (fX12_takes_b28 N _ _ (x.1 + r4) (i : Int) ((W * H : Nat) : Int) r1.1 y r1.2.1 r1.2.2.1 r1.2.2.2.1 r1.2.2.2.2.1 r1.2.2.2.2.2.1 r1.2.2.2.2.2.2.1 r1.2.2.2.2.2.2.2.1 r1.2.2.2.2.2.2.2.2) _
      unfold fX12_takes_b28 fX12_takes_j67
      refine Ok.bind (mdots_ok hI2) (fun r5 h5 => ?_)
      rw [h5]
      refine Ok.ltn (by omega) (ih (_, _) ⟨?_, hI2.cong (fun t p ht hp => ?_)⟩)
      · show x.1 + r4 = _
        rw [sI_succ, i1, h4]
        congr 1
        exact chS_cong (fun p hp => mxS_ge (by omega)) (fun p hp => h1 i p hi hp)
      · by_cases z : 64 * t + p < 64 * i + W * H
        · rw [mxS_lt z, mxS_lt (by omega)]
        · rw [mxS_ge (by omega), mxS_ge (by omega)]
  · intro m x hI
    obtain ⟨i1, i2⟩ := hI
    show Ok (fX12_takes_b8 N _ _ x.1 (F : Int) r1.1 x.2 r1.2.1 r1.2.2.1 r1.2.2.2.1 r1.2.2.2.2.1 r1.2.2.2.2.2.1 r1.2.2.2.2.2.2.1 r1.2.2.2.2.2.2.2.1 r1.2.2.2.2.2.2.2.2) _
    unfold fX12_takes_b8 fX12_takes_j73
    rw [(show ((2 : Int)).toNat = 2 from rfl), i2.2.2.1]
    exact Ok.gd (by omega) (Ok.ltn (by omega) (Ok.ret ⟨i1, i2.cong (fun t p ht hp => mxS_lt (by omega))⟩))
end PE
