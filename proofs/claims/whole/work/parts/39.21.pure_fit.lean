/-! The table that fits one frame to another one. -/
section PS
def ftS (d : Nat → Int) (a b S s v : Nat) : Int := sI (fun p => if d (64 * a + p) = (s : Int) then ab ((v : Int) - d (64 * b + p)) else 0) S
theorem ftS_b {d : Nat → Int} {a b S s v : Nat} (hS : S ≤ 64) (hv : v < 16) (hb : DotB d S b) : 0 ≤ ftS d a b S s v ∧ ftS d a b S s v ≤ 960 := by
  have := sI_bound (f := fun p => if d (64 * a + p) = (s : Int) then ab ((v : Int) - d (64 * b + p)) else 0) (c := 15) (n := S) (fun p hp => by
    have h1 := hb p hp
    have h2 := ab_nn ((v : Int) - d (64 * b + p))
    have h3 := ab_le (z := (v : Int) - d (64 * b + p)) (c := 15) (by omega)
    show 0 ≤ (if d (64 * a + p) = (s : Int) then ab ((v : Int) - d (64 * b + p)) else 0) ∧ (if d (64 * a + p) = (s : Int) then ab ((v : Int) - d (64 * b + p)) else 0) ≤ 15
    by_cases q : d (64 * a + p) = (s : Int)
    · rw [if_pos q]; omega
    · rw [if_neg q]; omega)
  unfold ftS
  omega
def IsM (g : Nat → Int) (lo : Nat) (x : Int) : Prop := (∀ v, lo ≤ v → v < 16 → x ≤ g v) ∧ ∃ v, lo ≤ v ∧ v < 16 ∧ x = g v
theorem IsM.uniq {g : Nat → Int} {lo : Nat} {x y : Int} (h1 : IsM g lo x) (h2 : IsM g lo y) : x = y := by
  obtain ⟨v, v1, v2, v3⟩ := h1.2
  obtain ⟨w, w1, w2, w3⟩ := h2.2
  have := h1.1 w w1 w2
  have := h2.1 v v1 v2
  omega
theorem IsM.cong {g g' : Nat → Int} {lo : Nat} {x : Int} (h : IsM g lo x) (hg : ∀ v, lo ≤ v → v < 16 → g v = g' v) : IsM g' lo x := by
  obtain ⟨v, v1, v2, v3⟩ := h.2
  exact ⟨fun u h1 h2 => by rw [← hg u h1 h2]; exact h.1 u h1 h2, v, v1, v2, by rw [← hg v v1 v2]; exact v3⟩
def smM (g : Nat → Int) : Nat → Int
  | 0 => g 15
  | m + 1 => if g (15 - (m + 1)) < smM g m then g (15 - (m + 1)) else smM g m
theorem smM_succ (g : Nat → Int) (m : Nat) : smM g (m + 1) = if g (15 - (m + 1)) < smM g m then g (15 - (m + 1)) else smM g m := rfl
theorem smM_min (g : Nat → Int) : ∀ m, m ≤ 15 → IsM g (15 - m) (smM g m) := by
  intro m
  induction m with
  | zero =>
    intro _
    refine ⟨?_, 15, by omega, by omega, rfl⟩
    intro v h1 h2
    rw [show v = 15 by omega]; exact Int.le_refl _
  | succ m ih =>
    intro hm
    have h := ih (by omega)
    obtain ⟨w, w1, w2, w3⟩ := h.2
    rw [smM_succ]
    by_cases q : g (15 - (m + 1)) < smM g m
    · rw [if_pos q]
      refine ⟨?_, 15 - (m + 1), by omega, by omega, rfl⟩
      intro v h1 h2
      by_cases z : v = 15 - (m + 1)
      · rw [z]; exact Int.le_refl _
      · have := h.1 v (by omega) h2; omega
    · rw [if_neg q]
      refine ⟨?_, w, by omega, w2, w3⟩
      intro v h1 h2
      by_cases z : v = 15 - (m + 1)
      · rw [z]; omega
      · exact h.1 v (by omega) h2
def ltS (ft : Nat → Nat → Int) : Nat → Nat → Int
  | 0 => fun _ => 0
  | n + 1 => fun v => smM (fun v' => ft (15 - n) v' + ltS ft n v') (15 - v)
def fLS (ft : Nat → Nat → Int) (s v : Nat) : Int := ltS ft (16 - s) v
def fCM (ft : Nat → Nat → Int) (s v : Nat) : Int := ft s v + fLS ft (s + 1) v
theorem fLS_16 (ft : Nat → Nat → Int) (v : Nat) : fLS ft 16 v = 0 := rfl
theorem fLS_sm (ft : Nat → Nat → Int) {s v : Nat} (hs : s < 16) : fLS ft s v = smM (fCM ft s) (15 - v) := by
  unfold fLS fCM fLS
  obtain ⟨n, hn⟩ : ∃ n, 16 - s = n + 1 := ⟨15 - s, by omega⟩
  rw [hn, show 16 - (s + 1) = n by omega]
  show smM (fun v' => ft (15 - n) v' + ltS ft n v') (15 - v) = _
  rw [show 15 - n = s by omega]
theorem fLS_min (ft : Nat → Nat → Int) {s v : Nat} (hs : s < 16) (hv : v < 16) : IsM (fCM ft s) v (fLS ft s v) := by
  rw [fLS_sm ft hs]
  have := smM_min (fCM ft s) (15 - v) (by omega)
  rw [show 15 - (15 - v) = v by omega] at this
  exact this
theorem fLS_b {ft : Nat → Nat → Int} (hf : ∀ s v, s < 16 → v < 16 → 0 ≤ ft s v ∧ ft s v ≤ 960) : ∀ (n s v : Nat), s + n = 16 → v < 16 → 0 ≤ fLS ft s v ∧ fLS ft s v ≤ 960 * (n : Int) := by
  intro n
  induction n with
  | zero => intro s v hs hv; rw [show s = 16 by omega, fLS_16]; omega
  | succ n ih =>
    intro s v hs hv
    obtain ⟨w, w1, w2, w3⟩ := (fLS_min ft (s := s) (v := v) (by omega) hv).2
    have h1 := hf s w (by omega) w2
    have h2 := ih (s + 1) w (by omega) w2
    have w4 : fLS ft s v = ft s w + fLS ft (s + 1) w := w3
    omega
theorem fLS_bb {ft : Nat → Nat → Int} (hf : ∀ s v, s < 16 → v < 16 → 0 ≤ ft s v ∧ ft s v ≤ 960) {s v : Nat} (hs : s ≤ 16) (hv : v < 16) : 0 ≤ fLS ft s v ∧ fLS ft s v ≤ 15360 := by
  have := fLS_b hf (16 - s) s v (by omega) hv
  omega
/-- costs, in the class -/
theorem fitCosts_ok {N a b F : Nat} {d co : Nat → Int} {W H : Nat} (hS : W * H ≤ 64) (hF : F ≤ 24) (ha : a < F) (hb : b < F) (hd : DB d (W * H) F) (hN : 400 < N) : Ok (fX3_addCosts N W H d co a b) (fun g => ∀ s v, s < 16 → v < 16 → g (16 * s + v) = ftS d a b (W * H) s v) := by
  unfold fX3_addCosts
  refine Ok.bind (fill_ok (n := 256) (by omega) (by omega)) (fun r1 h1 => ?_)
  refine Ok.loop (fun m i g => fX3_addCosts_L11 N W H d a b (fX3_addCosts_j94 N W H d a b) m (i : Int) g) (W * H) (fun i g => ∀ s v, s < 16 → v < 16 → g (16 * s + v) = ftS d a b i s v) _ ?_ ?_ N 0 r1 (by omega) (by omega) ?_
  · intro m i g hi hI ih
    show Ok (fX3_addCosts_b11 N W H d a b _ _ (i : Int) g) _
    unfold fX3_addCosts_b11
    refine Ok.bind fsize_ok (fun r2 h2 => ?_)
    have d1 := hd a i ha hi
    have d2 := hd b i hb hi
    obtain ⟨w, hw⟩ : ∃ w : Nat, d (64 * a + i) = (w : Int) := ⟨(d (64 * a + i)).toNat, by omega⟩
    rw [h2, show ((a : Int) * 64 + (i : Int)).toNat = 64 * a + i by omega, show ((b : Int) * 64 + (i : Int)).toNat = 64 * b + i by omega, hw]
    refine Ok.ltp (by omega) (Ok.gd (by omega) (Ok.gd (by omega) ?_))
    refine Ok.loop (fun q u h => fX3_addCosts_L51 N W H d a b (fX3_addCosts_j88 N W H d a b (fX3_addCosts_L11 N W H d a b (fX3_addCosts_j94 N W H d a b) m) (fX3_addCosts_j94 N W H d a b)) q (i : Int) (w : Int) (d (64 * b + i)) (u : Int) h) 16 (fun u h => (∀ s v, s < 16 → s ≠ w → v < 16 → h (16 * s + v) = ftS d a b i s v) ∧ ∀ v, v < 16 → h (16 * w + v) = ftS d a b i w v + if v < u then ab ((v : Int) - d (64 * b + i)) else 0) _ ?_ ?_ N 0 g (by omega) (by omega) ⟨?_, ?_⟩
    · intro q u h hu hI2 ih2
      show Ok (fX3_addCosts_b51 N W H d a b _ _ (i : Int) (w : Int) (d (64 * b + i)) (u : Int) h) _
      unfold fX3_addCosts_b51
      rw [show ((w : Int) * 16 + (u : Int)).toNat = 16 * w + u by omega, abZ_ab (by omega)]
      refine Ok.ltp (by omega) (Ok.gd (by omega) (Ok.gd (by omega) (ih2 _ ⟨?_, ?_⟩)))
      · intro s v hs hne hv
        rw [uZ_ne (by omega)]; exact hI2.1 s v hs hne hv
      · intro v hv
        by_cases z : v = u
        · rw [z, uZ_at, hI2.2 u hu, if_neg (by omega), if_pos (by omega)]; omega
        · rw [uZ_ne (by omega), hI2.2 v hv]
          by_cases z2 : v < u
          · rw [if_pos z2, if_pos (by omega)]
          · rw [if_neg z2, if_neg (by omega)]
    · intro q h hI2
      show Ok (fX3_addCosts_b51 N W H d a b _ _ (i : Int) (w : Int) (d (64 * b + i)) ((16 : Nat) : Int) h) _
      unfold fX3_addCosts_b51 fX3_addCosts_j88
      refine Ok.ltn (by omega) (ih h ?_)
      intro s v hs hv
      have e2 : ftS d a b (i + 1) s v = ftS d a b i s v + if d (64 * a + i) = (s : Int) then ab ((v : Int) - d (64 * b + i)) else 0 := rfl
      rw [e2, hw]
      by_cases z : s = w
      · rw [z, hI2.2 v hv, if_pos hv, if_pos rfl]
      · rw [hI2.1 s v hs z hv, if_neg (by omega)]; omega
    · intro s v hs hne hv; exact hI s v hs hv
    · intro v hv
      rw [hI w v (by omega) hv, if_neg (by omega)]; omega
  · intro m g hI
    show Ok (fX3_addCosts_b11 N W H d a b _ _ ((W * H : Nat) : Int) g) _
    unfold fX3_addCosts_b11 fX3_addCosts_j94
    refine Ok.bind fsize_ok (fun r2 h2 => ?_)
    rw [h2]
    exact Ok.ltn (by omega) (Ok.ret hI)
  · intro s v hs hv
    rw [h1, if_pos (by omega)]; rfl
theorem fitBy_ok {N s v : Nat} {ft : Nat → Nat → Int} {co le : Nat → Int} (hs : s < 16) (hv : v < 16) (hco : ∀ s v, s < 16 → v < 16 → co (16 * s + v) = ft s v) (hle : le (16 * (s + 1) + v) = fLS ft (s + 1) v) : Ok (fX3_costBy N co le s v) (fun r => r = fCM ft s v) := by
  unfold fX3_costBy
  rw [show ((s : Int) * 16 + (v : Int)).toNat = 16 * s + v by omega, show (((s : Int) + 1) * 16 + (v : Int)).toNat = 16 * (s + 1) + v by omega, hco s v hs hv, hle]
  exact Ok.gd (by omega) (Ok.gd (by omega) (Ok.ret rfl))
def FtR (ft : Nat → Nat → Int) (le : Nat → Int) : Prop := ∀ s v, s ≤ 16 → v < 16 → le (16 * s + v) = fLS ft s v
theorem fitWork_ok {N a b F : Nat} {d co le : Nat → Int} {W H : Nat} (hS : W * H ≤ 64) (hF : F ≤ 24) (ha : a < F) (hb : b < F) (hd : DB d (W * H) F) (hN : 400 < N) (hl : ∀ v, v < 16 → le (256 + v) = 0) : Ok (fX3_work N W H d co le a b) (fun r => (∀ s v, s < 16 → v < 16 → r.1 (16 * s + v) = ftS d a b (W * H) s v) ∧ FtR (ftS d a b (W * H)) r.2) := by
  unfold fX3_work
  have hfb : ∀ s v, s < 16 → v < 16 → 0 ≤ ftS d a b (W * H) s v ∧ ftS d a b (W * H) s v ≤ 960 := fun s v _ hv => ftS_b hS hv (fun p hp => hd b p hb hp)
  refine Ok.bind (fitCosts_ok hS hF ha hb hd hN) (fun r1 h1 => ?_)
  rw [show (15 : Int) = 15 - ((0 : Nat) : Int) by omega]
  refine Ok.loop (fun m i g => fX3_work_L11 N W H d a b (fX3_work_j71 N W H d a b) m (15 - (i : Int)) r1 g) 16 (fun i g => ∀ s v, 16 - i ≤ s → s ≤ 16 → v < 16 → g (16 * s + v) = fLS (ftS d a b (W * H)) s v) _ ?_ ?_ N 0 le (by omega) (by omega) ?_
  · intro m i g hi hI ih
    show Ok (fX3_work_b11 N W H d a b _ _ (15 - (i : Int)) r1 g) _
    unfold fX3_work_b11
    refine Ok.ltn (by omega) ?_
    obtain ⟨s, hs⟩ : ∃ s : Nat, s + i = 15 := ⟨15 - i, by omega⟩
    rw [show 15 - (i : Int) = (s : Int) by omega]
    have key : Ok (fX3_work_L24 N W H d a b (fX3_work_j65 N W H d a b (fX3_work_L11 N W H d a b (fX3_work_j71 N W H d a b) m) (fX3_work_j71 N W H d a b)) N (s : Int) 1000000 (15 - ((0 : Nat) : Int)) r1 g) (fun r => (∀ s v, s < 16 → v < 16 → r.1 (16 * s + v) = ftS d a b (W * H) s v) ∧ FtR (ftS d a b (W * H)) r.2) := by
      refine Ok.loop (fun q j (x : Int × (Nat → Int)) => fX3_work_L24 N W H d a b (fX3_work_j65 N W H d a b (fX3_work_L11 N W H d a b (fX3_work_j71 N W H d a b) m) (fX3_work_j71 N W H d a b)) q (s : Int) x.1 (15 - (j : Int)) r1 x.2) 16 (fun j x => ((j = 0 ∧ x.1 = 1000000) ∨ (0 < j ∧ x.1 = smM (fCM (ftS d a b (W * H)) s) (j - 1))) ∧ (∀ s' v, s + 1 ≤ s' → s' ≤ 16 → v < 16 → x.2 (16 * s' + v) = fLS (ftS d a b (W * H)) s' v) ∧ ∀ v, 16 - j ≤ v → v < 16 → x.2 (16 * s + v) = fLS (ftS d a b (W * H)) s v) _ ?_ ?_ N 0 (1000000, g) (by omega) (by omega) ⟨Or.inl ⟨rfl, rfl⟩, ?_, ?_⟩
      · intro q j x hj hI2 ih2
        obtain ⟨k1, k2, k3⟩ := hI2
        show Ok (fX3_work_b24 N W H d a b _ _ (s : Int) x.1 (15 - (j : Int)) r1 x.2) _
        unfold fX3_work_b24
        obtain ⟨v, hv⟩ : ∃ v : Nat, v + j = 15 := ⟨15 - j, by omega⟩
        rw [show 15 - (j : Int) = (v : Int) by omega]
        refine Ok.ltn (by omega) (Ok.bind (fitBy_ok (s := s) (v := v) (by omega) (by omega) h1 (k2 (s + 1) v (by omega) (by omega) (by omega))) (fun r4 h4 => ?_))
        have hcb1 := hfb s v (by omega) (by omega)
        have hcb2 := fLS_bb hfb (s := s + 1) (v := v) (by omega) (by omega)
        have h4' : r4 = ftS d a b (W * H) s v + fLS (ftS d a b (W * H)) (s + 1) v := h4
        have hxb : x.1 = 1000000 ∨ (0 ≤ x.1 ∧ x.1 ≤ 20000) := by
          rcases k1 with z | z
          · exact Or.inl z.2
          · right
            obtain ⟨w, w1, w2, w3⟩ := (smM_min (fCM (ftS d a b (W * H)) s) (j - 1) (by omega)).2
            have e1 := hfb s w (by omega) w2
            have e2 := fLS_bb hfb (s := s + 1) (v := w) (by omega) w2
            have w4 : smM (fCM (ftS d a b (W * H)) s) (j - 1) = ftS d a b (W * H) s w + fLS (ftS d a b (W * H)) (s + 1) w := w3
            rw [z.2, w4]; omega
        have hmn : mnZ x.1 r4 = smM (fCM (ftS d a b (W * H)) s) j := by
          rw [mnZ_min (by omega)]
          rcases k1 with z | z
          · rw [if_pos (by omega), h4, z.1, show v = 15 by omega]; rfl
          · obtain ⟨j', rfl⟩ : ∃ j', j = j' + 1 := ⟨j - 1, by omega⟩
            have z2 := z.2
            rw [show j' + 1 - 1 = j' by omega] at z2
            rw [smM_succ, ← z2, h4, show 15 - (j' + 1) = v by omega]
        rw [hmn, show ((s : Int) * 16 + (v : Int)).toNat = 16 * s + v by omega, show (v : Int) + -1 = 15 - ((j + 1 : Nat) : Int) by omega]
        refine Ok.gd (by omega) (ih2 (_, _) ⟨Or.inr ⟨by omega, rfl⟩, ?_, ?_⟩)
        · intro s' v' g1 g2 g3
          show uZ _ _ _ _ = _
          rw [uZ_ne (by omega)]; exact k2 s' v' g1 g2 g3
        · intro v' g1 g2
          show uZ _ _ _ _ = _
          by_cases z : v' = v
          · rw [z, uZ_at, fLS_sm _ (by omega), show 15 - v = j by omega]
          · rw [uZ_ne (by omega)]; exact k3 v' (by omega) g2
      · intro q x hI2
        obtain ⟨k1, k2, k3⟩ := hI2
        show Ok (fX3_work_b24 N W H d a b _ _ (s : Int) x.1 (15 - ((16 : Nat) : Int)) r1 x.2) _
        unfold fX3_work_b24 fX3_work_j65
        rw [show (s : Int) + -1 = 15 - ((i + 1 : Nat) : Int) by omega]
        refine Ok.ltp (by omega) (ih _ ?_)
        intro s' v g1 g2 g3
        by_cases z : s' = s
        · rw [z]; exact k3 v (by omega) g3
        · exact k2 s' v (by omega) g2 g3
      · intro s' v g1 g2 g3; exact hI s' v (by omega) g2 g3
      · intro v g1 g2; omega
    exact key
  · intro m g hI
    show Ok (fX3_work_b11 N W H d a b _ _ (15 - ((16 : Nat) : Int)) r1 g) _
    unfold fX3_work_b11 fX3_work_j71
    exact Ok.ltp (by omega) (Ok.ret ⟨h1, fun s v hs hv => hI s v (by omega) hs hv⟩)
  · intro s v g1 g2 g3
    rw [show s = 16 by omega, fLS_16]; exact hl v g3
/-- the next shade -/
def ntG (ft : Nat → Nat → Int) (s lo : Nat) : Nat → Int := fun j => if lo ≤ j ∧ fCM ft s j ≤ fLS ft s lo then 1 else 0
def ntS (ft : Nat → Nat → Int) (s lo : Nat) : Nat := lsF (ntG ft s lo) 1 15
def lwS (ft : Nat → Nat → Int) : Nat → Nat
  | 0 => 0
  | s + 1 => ntS ft s (lwS ft s)
theorem lwS_succ (ft : Nat → Nat → Int) (s : Nat) : lwS ft (s + 1) = ntS ft s (lwS ft s) := rfl
theorem lwS_b (ft : Nat → Nat → Int) : ∀ s, lwS ft s ≤ 15
  | 0 => Nat.zero_le _
  | s + 1 => by rw [lwS_succ]; exact (lsF_spec _ _ _).1
theorem ntG_t {ft : Nat → Nat → Int} {s lo j : Nat} (h1 : lo ≤ j) (h2 : fCM ft s j ≤ fLS ft s lo) : ntG ft s lo j = 1 := if_pos ⟨h1, h2⟩
theorem ntG_f {ft : Nat → Nat → Int} {s lo j : Nat} (h : ¬ (lo ≤ j ∧ fCM ft s j ≤ fLS ft s lo)) : ntG ft s lo j = 0 := if_neg h
theorem nt_eq {ft : Nat → Nat → Int} {s lo v : Nat} (hlv : lo ≤ v) (hv : v ≤ 15) (h1 : ∀ u, lo ≤ u → u < v → fLS ft s lo < fCM ft s u) (h2 : v < 15 → fCM ft s v ≤ fLS ft s lo) : ntS ft s lo = v := by
  unfold ntS
  refine lsF_eq hv ?_ ?_
  · intro x hx
    rw [ntG_f (by
      intro y
      have := h1 x y.1 hx
      omega)]
    omega
  · intro hlt
    rw [ntG_t hlv (h2 hlt)]; omega
theorem fLS_next {ft : Nat → Nat → Int} {s v : Nat} (hs : s < 16) (hv : v < 15) (h : fLS ft s v < fCM ft s v) : fLS ft s (v + 1) = fLS ft s v := by
  have h1 := fLS_min ft hs (v := v) (by omega)
  have h2 := fLS_min ft hs (v := v + 1) (by omega)
  obtain ⟨w, w1, w2, w3⟩ := h1.2
  obtain ⟨x, x1, x2, x3⟩ := h2.2
  have e1 := h1.1 x (by omega) x2
  have hne : w ≠ v := by
    intro z
    rw [z] at w3; omega
  have e2 := h2.1 w (by omega) w2
  omega
theorem comesTo_ok {N k : Nat} {ft : Nat → Nat → Int} {co le : Nat → Int} (hN : 400 < N) (hk : k < 16) (hf : ∀ s v, s < 16 → v < 16 → 0 ≤ ft s v ∧ ft s v ≤ 960) (hco : ∀ s v, s < 16 → v < 16 → co (16 * s + v) = ft s v) (hle : FtR ft le) : Ok (fX3_comesTo N co le k) (fun r => r = (lwS ft (k + 1) : Int)) := by
  unfold fX3_comesTo
  refine Ok.loop (fun m s (a : Int) => fX3_comesTo_L4 N co le k (fX3_comesTo_j47 N co le k) m a (s : Int)) (k + 1) (fun s a => a = (lwS ft s : Int)) _ ?_ ?_ N 0 0 (by omega) (by omega) rfl
  · intro m s a hs hI ih
    show Ok (fX3_comesTo_b4 N co le k _ _ a (s : Int)) _
    unfold fX3_comesTo_b4
    have hlb := lwS_b ft s
    obtain ⟨lo, hlo⟩ : ∃ lo, lo = lwS ft s := ⟨_, rfl⟩
    rw [← hlo] at hlb hI
    rw [hI]
    refine Ok.ltn (by omega) ?_
    have fin : ∀ v, ntS ft s lo = v → Ok (fX3_comesTo_j41 N co le k (fX3_comesTo_L4 N co le k (fX3_comesTo_j47 N co le k) m) (fX3_comesTo_j47 N co le k) (v : Int) (s : Int)) (fun r => r = (lwS ft (k + 1) : Int)) := by
      intro v hv
      unfold fX3_comesTo_j41
      rw [show (s : Int) + 1 = ((s + 1 : Nat) : Int) by omega]
      exact ih _ (by rw [lwS_succ, ← hlo, hv])
    refine Ok.loop (fun q v (_ : Unit) => fX3_comesTo_L9 N co le k (fX3_comesTo_j41 N co le k (fX3_comesTo_L4 N co le k (fX3_comesTo_j47 N co le k) m) (fX3_comesTo_j47 N co le k)) q (v : Int) (s : Int)) 15 (fun v _ => lo ≤ v ∧ fLS ft s v = fLS ft s lo ∧ ∀ u, lo ≤ u → u < v → fLS ft s lo < fCM ft s u) _ ?_ ?_ N lo () (by omega) (by omega) ⟨by omega, rfl, fun u h1 h2 => by omega⟩
    · intro q v _ hv hI2 ih2
      obtain ⟨k1, k2, k3⟩ := hI2
      show Ok (fX3_comesTo_b9 N co le k _ _ (v : Int) (s : Int)) _
      unfold fX3_comesTo_b9
      have hb1 := hf s v (by omega) (by omega)
      have hb2 := fLS_bb hf (s := s + 1) (v := v) (by omega) (by omega)
      have hb3 := fLS_bb hf (s := s) (v := v) (by omega) (by omega)
      refine Ok.ltp (by omega) (Ok.bind (fitBy_ok (s := s) (v := v) (by omega) (by omega) hco (hle (s + 1) v (by omega) (by omega))) (fun r3 h3 => ?_))
      have h3' : r3 = ft s v + fLS ft (s + 1) v := h3
      rw [show ((s : Int) * 16 + (v : Int)).toNat = 16 * s + v by omega, hle s v (by omega) (by omega)]
      refine Ok.gd (by omega) (Ok.lt (by omega) (fun z => ?_) (fun z => ?_))
      · have hn := fLS_next (ft := ft) (s := s) (v := v) (by omega) hv (by rw [← h3]; exact z)
        refine ih2 () ⟨by omega, by rw [hn]; exact k2, ?_⟩
        intro u g1 g2
        by_cases w : u = v
        · rw [w, ← h3, ← k2]; exact z
        · exact k3 u g1 (by omega)
      · exact fin v (nt_eq k1 (by omega) k3 (fun _ => by rw [← h3, ← k2]; exact z))
    · intro q _ hI2
      obtain ⟨k1, k2, k3⟩ := hI2
      show Ok (fX3_comesTo_b9 N co le k _ _ ((15 : Nat) : Int) (s : Int)) _
      unfold fX3_comesTo_b9
      exact Ok.ltn (by omega) (fin 15 (nt_eq k1 (by omega) k3 (fun z => by omega)))
  · intro m a hI
    show Ok (fX3_comesTo_b4 N co le k _ _ a ((k + 1 : Nat) : Int)) _
    unfold fX3_comesTo_b4 fX3_comesTo_j47
    exact Ok.ltp (by omega) (Ok.ret hI)
end PS
