/-! The table that fits: the reference. -/
section PT
theorem costOf_ok {N a b k v : Nat} {d cu sk se we : Nat → Int} {W H F : Nat} {s : Nat → Int} (hs : SR s d cu sk se we W H F) (hv : FV d cu sk se we W H F) (ha : a < F) (hb : b < F) (hk : k < 16) (hv2 : v < 16) (hN : 400 < N) : Ok (fX12_costOf N s a b k v) (fun r => r = ftS d a b (W * H) k v) := by
  have hS := size_b hv.1 hv.2.1
  unfold fX12_costOf
  refine Ok.loop (fun m i x => fX12_costOf_L6 N s a b k v (fX12_costOf_j53 N s a b k v) m x (i : Int)) (W * H) (fun i x => x = ftS d a b i k v) _ ?_ ?_ N 0 0 (by omega) (by omega) rfl
  · intro m i x hi hI ih
    show Ok (fX12_costOf_b6 N s a b k v _ _ x (i : Int)) _
    unfold fX12_costOf_b6
    have d1 := hv.dB ha i hi
    have d2 := hv.dB hb i hi
    have e2 : ftS d a b (i + 1) k v = ftS d a b i k v + if d (64 * a + i) = (k : Int) then ab ((v : Int) - d (64 * b + i)) else 0 := rfl
    refine Ok.bind (mdots_ok hs) (fun r1 h1 => ?_)
    rw [h1]
    refine Ok.ltp (by omega) (Ok.bind (mdotAt_ok hs hv ha hi) (fun r3 h3 => ?_))
    refine Ok.eq (by omega) (fun q => Ok.bind (mdotAt_ok hs hv hb hi) (fun r5 h5 => Ok.bind (off_ok (by omega)) (fun r6 h6 => ih _ ?_))) (fun q => ih _ ?_)
    · rw [e2, if_pos (by omega), hI, h6, h5]
    · rw [e2, if_neg (by omega), hI]
  · intro m x hI
    show Ok (fX12_costOf_b6 N s a b k v _ _ x ((W * H : Nat) : Int)) _
    unfold fX12_costOf_b6 fX12_costOf_j53
    refine Ok.bind (mdots_ok hs) (fun r1 h1 => ?_)
    rw [h1]
    exact Ok.ltn (by omega) (Ok.ret hI)
theorem leastFrom_ok {N k lo : Nat} {co g : Nat → Int} (hk : k ≤ 16) (hlo : lo < 16) (hN : 40 < N) (hg : ∀ v, v < 16 → co (16 * k + v) = g v) (hb : ∀ v, v < 16 → 0 ≤ g v ∧ g v ≤ 100000) : Ok (fX12_leastFrom N co k lo) (fun r => IsM g lo r) := by
  unfold fX12_leastFrom
  rw [show (16 * (k : Int) + (lo : Int)).toNat = 16 * k + lo by omega, hg lo hlo, show (lo : Int) + 1 = ((lo + 1 : Nat) : Int) by omega]
  refine Ok.gd (by omega) ?_
  refine Ok.loop (fun m i x => fX12_leastFrom_L17 N co k lo (fX12_leastFrom_j63 N co k lo) m x (i : Int)) 16 (fun i x => lo < i ∧ (∀ v, lo ≤ v → v < i → x ≤ g v) ∧ ∃ v, lo ≤ v ∧ v < i ∧ x = g v) _ ?_ ?_ N (lo + 1) (g lo) (by omega) (by omega) ⟨by omega, ?_, lo, by omega, by omega, rfl⟩
  · intro m i x hi hI ih
    obtain ⟨k0, k1, w, w1, w2, w3⟩ := hI
    show Ok (fX12_leastFrom_b17 N co k lo _ _ x (i : Int)) _
    unfold fX12_leastFrom_b17
    have b1 := hb i hi
    have b2 := hb w (by omega)
    rw [show (16 * (k : Int) + (i : Int)).toNat = 16 * k + i by omega, hg i hi]
    refine Ok.ltp (by omega) (Ok.gd (by omega) (Ok.lt (by omega) (fun q => Ok.gd (by omega) (ih _ ⟨by omega, ?_, i, by omega, by omega, rfl⟩)) (fun q => ih _ ⟨by omega, ?_, w, w1, by omega, w3⟩)))
    · intro v g1 g2
      by_cases z : v = i
      · rw [z]; exact Int.le_refl _
      · have := k1 v g1 (by omega); omega
    · intro v g1 g2
      by_cases z : v = i
      · rw [z]; exact q
      · exact k1 v g1 (by omega)
  · intro m x hI
    obtain ⟨k0, k1, k2⟩ := hI
    show Ok (fX12_leastFrom_b17 N co k lo _ _ x ((16 : Nat) : Int)) _
    unfold fX12_leastFrom_b17 fX12_leastFrom_j63
    exact Ok.ltn (by omega) (Ok.ret ⟨k1, k2⟩)
  · intro v g1 g2
    rw [show v = lo by omega]; exact Int.le_refl _
def MmR (ft : Nat → Nat → Int) (i : Nat) (co : Nat → Int) : Prop := (∀ s v, 16 - i ≤ s → s < 16 → v < 16 → co (16 * s + v) = fCM ft s v) ∧ ∀ v, v < 16 → co (256 + v) = 0
theorem fCM_b {ft : Nat → Nat → Int} (hf : ∀ s v, s < 16 → v < 16 → 0 ≤ ft s v ∧ ft s v ≤ 960) {s v : Nat} (hs : s < 16) (hv : v < 16) : 0 ≤ fCM ft s v ∧ fCM ft s v ≤ 20000 := by
  have h1 := hf s v hs hv
  have h2 := fLS_bb hf (s := s + 1) (v := v) (by omega) hv
  unfold fCM
  omega
theorem mleast_ok {N k lo i : Nat} {ft : Nat → Nat → Int} {co : Nat → Int} (hf : ∀ s v, s < 16 → v < 16 → 0 ≤ ft s v ∧ ft s v ≤ 960) (hk : k ≤ 16) (hki : 16 - i ≤ k) (hlo : lo < 16) (hN : 40 < N) (hm : MmR ft i co) : Ok (fX12_leastFrom N co k lo) (fun r => r = fLS ft k lo) := by
  by_cases z : k = 16
  · refine Ok.mono (leastFrom_ok (g := fun _ => 0) hk hlo hN ?_ ?_) (fun r hr => ?_)
    · intro v hv; rw [z]; exact hm.2 v hv
    · intro v hv; omega
    · obtain ⟨w, w1, w2, w3⟩ := hr.2
      rw [z, fLS_16]; exact w3
  · refine Ok.mono (leastFrom_ok (g := fCM ft k) hk hlo hN ?_ ?_) (fun r hr => ?_)
    · intro v hv; exact hm.1 k v hki (by omega) hv
    · intro v hv
      have := fCM_b hf (s := k) (v := v) (by omega) hv
      omega
    · exact hr.uniq (fLS_min ft (by omega) hlo)
theorem mfit_tab {N a b : Nat} {d cu sk se we : Nat → Int} {W H F : Nat} {s co : Nat → Int} {x3 th : Int} {P : Int × Int × (Nat → Int) → Prop} (hs : SR s d cu sk se we W H F) (hv : FV d cu sk se we W H F) (ha : a < F) (hb : b < F) (hN : 400 < N) (hk : ∀ co2 : Nat → Int, MmR (ftS d a b (W * H)) 16 co2 → Ok (fX12_fitted_j132 N s a b x3 th co2) P) : Ok (fX12_fitted_L42 N s a b x3 (fX12_fitted_j67 N s a b x3) N 0 th co) P := by
  have hS := size_b hv.1 hv.2.1
  have hfb : ∀ s v, s < 16 → v < 16 → 0 ≤ ftS d a b (W * H) s v ∧ ftS d a b (W * H) s v ≤ 960 := fun s v _ hv2 => ftS_b hS.2 hv2 (hv.dB hb)
  refine Ok.loop (fun m i g => fX12_fitted_L42 N s a b x3 (fX12_fitted_j67 N s a b x3) m (i : Int) th g) 16 (fun i g => ∀ v, v < i → g (256 + v) = 0) _ ?_ ?_ N 0 co (by omega) (by omega) (fun v h => by omega)
  · intro m i g hi hI ih
    show Ok (fX12_fitted_b42 N s a b x3 _ _ (i : Int) th g) _
    unfold fX12_fitted_b42
    rw [show (256 + (i : Int)).toNat = 256 + i by omega]
    refine Ok.ltp (by omega) (Ok.gd (by omega) (ih _ ?_))
    intro v hv
    by_cases z : v = i
    · rw [z, uZ_at]
    · rw [uZ_ne (by omega)]; exact hI v (by omega)
  · intro m g hI
    show Ok (fX12_fitted_b42 N s a b x3 _ _ ((16 : Nat) : Int) th g) _
    unfold fX12_fitted_b42 fX12_fitted_j67
    refine Ok.ltn (by omega) ?_
    rw [show (15 : Int) = 15 - ((0 : Nat) : Int) by omega]
    refine Ok.loop (fun m i g => fX12_fitted_L71 N s a b x3 (fX12_fitted_j132 N s a b x3) m (15 - (i : Int)) th g) 16 (fun i g => MmR (ftS d a b (W * H)) i g) _ ?_ ?_ N 0 g (by omega) (by omega) ⟨fun s v h1 h2 h3 => by omega, hI⟩
    · intro m2 i g2 hi hI2 ih2
      show Ok (fX12_fitted_b71 N s a b x3 _ _ (15 - (i : Int)) th g2) _
      unfold fX12_fitted_b71
      obtain ⟨k, hk2⟩ : ∃ k : Nat, k + i = 15 := ⟨15 - i, by omega⟩
      rw [show 15 - (i : Int) = (k : Int) by omega]
      refine Ok.ltn (by omega) ?_
      refine Ok.loop (fun q v h => fX12_fitted_L79 N s a b x3 (fX12_fitted_j126 N s a b x3 (fX12_fitted_L71 N s a b x3 (fX12_fitted_j132 N s a b x3) m2) (fX12_fitted_j132 N s a b x3)) q (k : Int) (v : Int) th h) 16 (fun v h => MmR (ftS d a b (W * H)) i h ∧ ∀ v', v' < v → h (16 * k + v') = fCM (ftS d a b (W * H)) k v') _ ?_ ?_ N 0 g2 (by omega) (by omega) ⟨hI2, fun v' h => by omega⟩
      · intro q v h hv2 hI3 ih3
        show Ok (fX12_fitted_b79 N s a b x3 _ _ (k : Int) (v : Int) th h) _
        unfold fX12_fitted_b79
        refine Ok.ltp (by omega) (Ok.bind (costOf_ok hs hv ha hb (by omega) hv2 hN) (fun r10 h10 => ?_))
        rw [show (k : Int) + 1 = ((k + 1 : Nat) : Int) by omega]
        refine Ok.bind (mleast_ok (i := i) hfb (by omega) (by omega) hv2 (by omega) hI3.1) (fun r11 h11 => ?_)
        rw [show (16 * (k : Int) + (v : Int)).toNat = 16 * k + v by omega]
        refine Ok.gd (by omega) (ih3 _ ⟨⟨?_, ?_⟩, ?_⟩)
        · intro s' v' g1 g3 g4
          rw [uZ_ne (by omega)]; exact hI3.1.1 s' v' g1 g3 g4
        · intro v' g1
          rw [uZ_ne (by omega)]; exact hI3.1.2 v' g1
        · intro v' g1
          by_cases z : v' = v
          · rw [z, uZ_at, h10, h11]; rfl
          · rw [uZ_ne (by omega)]; exact hI3.2 v' (by omega)
      · intro q h hI3
        show Ok (fX12_fitted_b79 N s a b x3 _ _ (k : Int) ((16 : Nat) : Int) th h) _
        unfold fX12_fitted_b79 fX12_fitted_j126
        refine Ok.ltn (by omega) ?_
        rw [show (k : Int) + -1 = 15 - ((i + 1 : Nat) : Int) by omega]
        refine ih2 h ⟨?_, hI3.1.2⟩
        intro s' v' g1 g2 g3
        by_cases z : s' = k
        · rw [z]; exact hI3.2 v' g3
        · exact hI3.1.1 s' v' (by omega) g2 g3
    · intro m2 g2 hI2
      show Ok (fX12_fitted_b71 N s a b x3 _ _ (15 - ((16 : Nat) : Int)) th g2) _
      unfold fX12_fitted_b71
      exact Ok.ltp (by omega) (hk g2 hI2)
theorem mfit_come {N a b k : Nat} {s co : Nat → Int} {th : Int} {ft : Nat → Nat → Int} (hN : 400 < N) (hk : k < 16) (hf : ∀ s v, s < 16 → v < 16 → 0 ≤ ft s v ∧ ft s v ≤ 960) (hm : MmR ft 16 co) : Ok (fX12_fitted_L150 N s a b k (fX12_fitted_j196 N s a b k) N 0 0 th co) (fun r => r.1 = (lwS ft (k + 1) : Int)) := by
  refine Ok.loop (fun m i (x : Int) => fX12_fitted_L150 N s a b k (fX12_fitted_j196 N s a b k) m x (i : Int) th co) (k + 1) (fun i x => x = (lwS ft i : Int)) _ ?_ ?_ N 0 0 (by omega) (by omega) rfl
  · intro m t x ht hI ih
    show Ok (fX12_fitted_b150 N s a b k _ _ x (t : Int) th co) _
    unfold fX12_fitted_b150
    have hlb := lwS_b ft t
    obtain ⟨lo, hlo⟩ : ∃ lo, lo = lwS ft t := ⟨_, rfl⟩
    rw [← hlo] at hlb hI
    rw [hI]
    refine Ok.ltn (by omega) (Ok.bind (mleast_ok (i := 16) hf (by omega) (by omega) (by omega) (by omega) hm) (fun r15 h15 => ?_))
    have hLb := fLS_bb hf (s := t) (v := lo) (by omega) (by omega)
    obtain ⟨n, hn⟩ : ∃ n, n = ntS ft t lo := ⟨_, rfl⟩
    have hn15 : n ≤ 15 := by rw [hn]; exact (lsF_spec _ _ _).1
    have hspec : (∀ u, lo ≤ u → u < n → fLS ft t lo < fCM ft t u) ∧ fCM ft t n ≤ fLS ft t lo ∧ lo ≤ n := by
      have hsp := lsF_spec (ntG ft t lo) 1 15
      have e1 : lsF (ntG ft t lo) 1 15 = n := hn.symm
      rw [e1] at hsp
      have p1 : ∀ u, lo ≤ u → u < n → fLS ft t lo < fCM ft t u := by
        intro u g1 g2
        have h1 := hsp.2.1 u g2
        rcases Int.lt_or_le (fLS ft t lo) (fCM ft t u) with z | z
        · exact z
        · rw [ntG_t g1 z] at h1; omega
      obtain ⟨w, w1, w2, w3⟩ := (fLS_min ft (s := t) (v := lo) (by omega) (by omega)).2
      have hwn : n ≤ w := by
        rcases Nat.lt_or_ge w n with z | z
        · have := p1 w w1 z; omega
        · exact z
      rcases Nat.lt_or_ge n 15 with z | z
      · have h1 := hsp.2.2 z
        rcases Classical.em (lo ≤ n ∧ fCM ft t n ≤ fLS ft t lo) with y | y
        · exact ⟨p1, y.2, y.1⟩
        · rw [ntG_f y] at h1; omega
      · have hw15 : w = n := by omega
        exact ⟨p1, by rw [← hw15, ← w3]; exact Int.le_refl _, by omega⟩
    refine Ok.loop (fun q v (_ : Unit) => fX12_fitted_L166 N s a b k (fX12_fitted_j190 N s a b k (fX12_fitted_L150 N s a b k (fX12_fitted_j196 N s a b k) m) (fX12_fitted_j196 N s a b k)) q (v : Int) (t : Int) r15 th co) n (fun v _ => lo ≤ v) _ ?_ ?_ N lo () (by omega) (by omega) (Nat.le_refl _)
    · intro q v _ hv hI2 ih2
      show Ok (fX12_fitted_b166 N s a b k _ _ (v : Int) (t : Int) r15 th co) _
      unfold fX12_fitted_b166
      have hb := fCM_b hf (s := t) (v := v) (by omega) (by omega)
      have h1 := hspec.1 v hI2 hv
      rw [show (16 * (t : Int) + (v : Int)).toNat = 16 * t + v by omega, hm.1 t v (by omega) (by omega) (by omega)]
      exact Ok.gd (by omega) (Ok.ltp (by omega) (ih2 () (by omega)))
    · intro q _ hI2
      show Ok (fX12_fitted_b166 N s a b k _ _ (n : Int) (t : Int) r15 th co) _
      unfold fX12_fitted_b166 fX12_fitted_j190
      have hb := fCM_b hf (s := t) (v := n) (by omega) (by omega)
      rw [show (16 * (t : Int) + (n : Int)).toNat = 16 * t + n by omega, hm.1 t n (by omega) (by omega) (by omega), show (t : Int) + 1 = ((t + 1 : Nat) : Int) by omega]
      exact Ok.gd (by omega) (Ok.ltn (by omega) (ih _ (by rw [lwS_succ, ← hlo, hn])))
  · intro m x hI
    show Ok (fX12_fitted_b150 N s a b k _ _ x ((k + 1 : Nat) : Int) th co) _
    unfold fX12_fitted_b150 fX12_fitted_j196
    exact Ok.ltp (by omega) (Ok.ret hI)
def FiI (le : Nat → Int) : Prop := ∀ v, v < 16 → le (256 + v) = 0
theorem fitted_j {N : Nat} {d cu sk se we : Nat → Int} {W H F : Nat} {s fco fle mco : Nat → Int} {x1 x2 x3 th : Int} (hs : SR s d cu sk se we W H F) (hv : FV d cu sk se we W H F) (hN : 400 < N) (hl : FiI fle) (hx1 : -2147483648 ≤ x1 ∧ x1 < 2147483648) (hx2 : -2147483648 ≤ x2 ∧ x2 < 2147483648) (hx3 : -2147483648 ≤ x3 ∧ x3 < 2147483648) : Ok (fX11_fitted N W H F d fco fle x1 x2 x3) (fun r => FiI r.2.2 ∧ Ok (fX12_fitted N s th mco x1 x2 x3) (fun q => r.1 = q.1)) := by
  have hF := hv.2.2.1
  have hS := size_b hv.1 hv.2.1
  unfold fX11_fitted fX12_fitted
  by_cases f1 : 0 ≤ x1 ∧ x1 < F
  · refine Ok.bind (hasFrame_t hF f1) (fun r1 h1 => Ok.eqn (by omega) ?_)
    by_cases f2 : 0 ≤ x2 ∧ x2 < F
    · refine Ok.bind (hasFrame_t hF f2) (fun r3 h3 => Ok.eqn (by omega) ?_)
      obtain ⟨a, rfl⟩ : ∃ a : Nat, x1 = (a : Int) := ⟨x1.toNat, by omega⟩
      obtain ⟨b, rfl⟩ : ∃ b : Nat, x2 = (b : Int) := ⟨x2.toNat, by omega⟩
      have ha : a < F := by omega
      have hb : b < F := by omega
      have hfb : ∀ s v, s < 16 → v < 16 → 0 ≤ ftS d a b (W * H) s v ∧ ftS d a b (W * H) s v ≤ 960 := fun s v _ hv2 => ftS_b hS.2 hv2 (hv.dB hb)
      by_cases q : x3 = -1
      · refine Ok.eqp q ?_
        unfold fX11_fitted_j40
        refine Ok.bind (fitWork_ok hS.2 hF ha hb hv.2.2.2.1 hN hl) (fun r6 h6 => Ok.eqp q (Ok.gd (by omega) (Ok.ret ⟨?_, ?_⟩)))
        · intro v hv2
          show r6.2 (256 + v) = 0
          rw [show 256 + v = 16 * 16 + v by omega, h6.2 16 v (by omega) hv2, fLS_16]
        · refine Ok.bind (isFrame_t hs.2.2.1 hF f1) (fun a1 b1 => Ok.eqn (by omega) (Ok.bind (isFrame_t hs.2.2.1 hF f2) (fun a3 b3 => Ok.eqn (by omega) (Ok.eqp q (mfit_tab hs hv ha hb hN (fun co2 hc2 => ?_))))))
          unfold fX12_fitted_j132
          refine Ok.eqp q (Ok.bind (mleast_ok (k := 0) (lo := 0) (i := 16) hfb (by omega) (by omega) (by omega) (by omega) hc2) (fun r18 h18 => Ok.ret ?_))
          show r6.2 ((0 : Int)).toNat = r18
          rw [(show ((0 : Int)).toNat = 0 from rfl), h18]
          exact h6.2 0 0 (by omega) (by omega)
      · refine Ok.eqn (by omega) ?_
        by_cases f3 : 0 ≤ x3 ∧ x3 < 16
        · obtain ⟨k, rfl⟩ : ∃ k : Nat, x3 = (k : Int) := ⟨x3.toNat, by omega⟩
          refine Ok.bind (shade_t f3) (fun r10 h10 => Ok.eqn (by omega) ?_)
          unfold fX11_fitted_j40
          refine Ok.bind (fitWork_ok hS.2 hF ha hb hv.2.2.2.1 hN hl) (fun r6 h6 => Ok.eqn (by omega) (Ok.bind (comesTo_ok hN (by omega) hfb h6.1 h6.2) (fun r8 h8 => Ok.ret ⟨?_, ?_⟩)))
          · intro v hv2
            show r6.2 (256 + v) = 0
            rw [show 256 + v = 16 * 16 + v by omega, h6.2 16 v (by omega) hv2, fLS_16]
          · refine Ok.bind (isFrame_t hs.2.2.1 hF f1) (fun a1 b1 => Ok.eqn (by omega) (Ok.bind (isFrame_t hs.2.2.1 hF f2) (fun a3 b3 => Ok.eqn (by omega) (Ok.eqn (by omega) (Ok.bind (mshade_t f3) (fun a19 b19 => Ok.eqn (by omega) (mfit_tab hs hv ha hb hN (fun co2 hc2 => ?_))))))))
            unfold fX12_fitted_j132
            exact Ok.eqn (by omega) (Ok.mono (mfit_come hN (by omega) hfb hc2) (fun z hz => by rw [h8, hz]))
        · exact Ok.bind (shade_f hx3 f3) (fun r10 h10 => Ok.eqp h10 (Ok.ret ⟨hl, Ok.bind (isFrame_t hs.2.2.1 hF f1) (fun a1 b1 => Ok.eqn (by omega) (Ok.bind (isFrame_t hs.2.2.1 hF f2) (fun a3 b3 => Ok.eqn (by omega) (Ok.eqn (by omega) (Ok.bind (mshade_f hx3 f3) (fun a19 b19 => Ok.eqp b19 (Ok.ret rfl)))))))⟩))
    · exact Ok.bind (hasFrame_f hF hx2 f2) (fun r3 h3 => Ok.eqp h3 (Ok.ret ⟨hl, Ok.bind (isFrame_t hs.2.2.1 hF f1) (fun a1 b1 => Ok.eqn (by omega) (Ok.bind (isFrame_f hs.2.2.1 hF hx2 f2) (fun a3 b3 => Ok.eqp b3 (Ok.ret rfl))))⟩))
  · exact Ok.bind (hasFrame_f hF hx1 f1) (fun r3 h3 => Ok.eqp h3 (Ok.ret ⟨hl, Ok.bind (isFrame_f hs.2.2.1 hF hx1 f1) (fun a3 b3 => Ok.eqp b3 (Ok.ret rfl))⟩))
end PT
