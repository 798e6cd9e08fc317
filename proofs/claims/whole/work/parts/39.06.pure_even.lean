/-! The evened film: what each dot becomes, in the class and in the reference. -/
section PD
noncomputable def BS (d cu se : Nat → Int) (S : Nat) : Nat → Bool := begB cu (se 4) (CU d S)
theorem BS_0 (d cu se : Nat → Int) (S : Nat) : BS d cu se S 0 = true := begB_t.mpr (Or.inl rfl)
noncomputable def TG (d cu sk se we : Nat → Int) (W H F : Nat) (t v : Nat) : Int := tgS sk se we (BS d cu se (W * H)) (CU d (W * H)) F t v
noncomputable def TB (d cu sk se we : Nat → Int) (W H F : Nat) (t v : Nat) : Int := tbS se (TG d cu sk se we W H F t) (CU d (W * H) (16 * t + v)) v
noncomputable def evS (d cu sk se we : Nat → Int) (W H F : Nat) (t p : Nat) : Int := if se 5 = 1 then (if d (64 * t + p) ≤ se 1 ∨ se 2 ≤ d (64 * t + p) then d (64 * t + p) else bdS se (d (64 * t + p)) (lsF (TG d cu sk se we W H F t) (rkS d W (W * H) t p + 1) 15 : Int)) else TB d cu sk se we W H F t (d (64 * t + p)).toNat
noncomputable def EV (d cu sk se we : Nat → Int) (W H F : Nat) : Nat → Int := fun j => evS d cu sk se we W H F (j / 64) (j % 64)
theorem EV_at (d cu sk se we : Nat → Int) (W H F : Nat) (t p : Nat) (hp : p < 64) : EV d cu sk se we W H F (64 * t + p) = evS d cu sk se we W H F t p := by
  unfold EV
  rw [show (64 * t + p) / 64 = t by omega, show (64 * t + p) % 64 = p by omega]
theorem FV.dB {d cu sk se we : Nat → Int} {W H F : Nat} (hv : FV d cu sk se we W H F) {t : Nat} (ht : t < F) : DotB d (W * H) t := fun p hp => hv.2.2.2.1 t p ht hp
theorem FV.TG_b {d cu sk se we : Nat → Int} {W H F : Nat} (hv : FV d cu sk se we W H F) {t v : Nat} (ht : t < F) (hv2 : v < 16) : 0 ≤ TG d cu sk se we W H F t v ∧ TG d cu sk se we W H F t v ≤ 64 := tgS_b (BS_0 _ _ _ _) hv.2.2.2.2.2.2.2.2.2 hv.seV.1.2 (CU_b (size_b hv.1 hv.2.1).2) hv.2.2.1 ht hv2
theorem FV.TG_15 {d cu sk se we : Nat → Int} {W H F : Nat} (hv : FV d cu sk se we W H F) {t : Nat} (ht : t < F) : TG d cu sk se we W H F t 15 = ((W * H : Nat) : Int) := tgS_15 (BS_0 _ _ _ _) (CU_m (fun t p ht hp => hv.2.2.2.1 t p ht hp)) ht
theorem FV.ev_b {d cu sk se we : Nat → Int} {W H F : Nat} (hv : FV d cu sk se we W H F) {t p : Nat} (ht : t < F) (hp : p < W * H) : 0 ≤ evS d cu sk se we W H F t p ∧ evS d cu sk se we W H F t p ≤ 15 := by
  have h0 := hv.dB ht p hp
  unfold evS
  by_cases q : se 5 = 1
  · rw [if_pos q]
    by_cases q2 : d (64 * t + p) ≤ se 1 ∨ se 2 ≤ d (64 * t + p)
    · rw [if_pos q2]; exact h0
    · rw [if_neg q2]; exact bdS_b hv.seV h0
  · rw [if_neg q]
    unfold TB
    exact tbS_b hv.seV (by omega)
theorem FV.EV_v {d cu sk se we : Nat → Int} {W H F : Nat} (hv : FV d cu sk se we W H F) : FV (EV d cu sk se we W H F) cu sk se we W H F := by
  have hS := size_b hv.1 hv.2.1
  refine ⟨hv.1, hv.2.1, hv.2.2.1, fun t p ht hp => ?_, hv.2.2.2.2⟩
  rw [EV_at d cu sk se we W H F t p (by omega)]
  exact hv.ev_b ht hp
theorem lsF_eq {G : Nat → Int} {m : Int} {n w : Nat} (hw : w ≤ n) (h1 : ∀ x, x < w → G x < m) (h2 : w < n → m ≤ G w) : lsF G m n = w := by
  have h3 := lsF_ge hw h1
  have h4 := lsF_spec G m n
  rcases Nat.lt_or_ge w (lsF G m n) with q | q
  · have := h4.2.1 w q
    have := h2 (by omega)
    omega
  · omega
theorem ord_idx {d g : Nat → Int} {W S t : Nat} (hS : S ≤ 64) (h : OrdR (kyR d W S t) S g) : ∃ o : Nat → Nat, (∀ j, j < S → g j = (o j : Int) ∧ o j < S ∧ rkS d W S t (o j) = (j : Int)) ∧ ∀ p, p < S → ∃ j, j < S ∧ o j = p := by
  obtain ⟨o, h1, h2⟩ := h
  have hi := rank_idx (fun i hi => (h1 i hi).2) h2
  refine ⟨o, fun j hj => ⟨(h1 j hj).1, (h1 j hj).2, hi j hj⟩, fun p hp => ?_⟩
  have hb := rcS_b (kyR d W S t) S (kyR d W S t p)
  have hl := rcS_lt (k := kyR d W S t) hp
  obtain ⟨r, hr⟩ : ∃ r : Nat, rcS (kyR d W S t) S (kyR d W S t p) = (r : Int) := ⟨(rcS (kyR d W S t) S (kyR d W S t p)).toNat, by omega⟩
  refine ⟨r, by omega, ?_⟩
  have := hi r (by omega)
  rw [← hr] at this
  exact kyR_inj hS (h1 r (by omega)).2 hp (rank_inj (h1 r (by omega)).2 hp this)
def Row64 (t : Nat) (g g0 : Nat → Int) : Prop := ∀ j, (j < 64 * t ∨ 64 * t + 64 ≤ j) → g j = g0 j
theorem spread_ok {N t : Nat} {d cu sk se we : Nat → Int} {W H F : Nat} {c tg ac ar no g0 dt : Nat → Int} {sz : Int} (hv : FV d cu sk se we W H F) (ht : t < F) (hc : CR (CU d (W * H)) F c) (htg : ∀ v, v < 16 → tg (16 * t + v) = TG d cu sk se we W H F t v) (h5 : se 5 = 1) (hN : 80 < N) : Ok (fX1_spreadDots N W H d c tg se sz ac ar no g0 dt t) (fun r => (∀ p, p < W * H → r.2.2.2.2.2 (64 * t + p) = evS d cu sk se we W H F t p) ∧ Row64 t r.2.2.2.2.2 dt) := by
  have hF := hv.2.2.1
  have hS := size_b hv.1 hv.2.1
  unfold fX1_spreadDots
  refine Ok.bind (order_ok hv.1 hv.2.1 (by omega) ht (by omega) (hv.dB ht) hc) (fun r1 hr1 => ?_)
  obtain ⟨hr0, hr1⟩ := hr1
  obtain ⟨o, ho, hsur⟩ := ord_idx hS.2 hr1
  have hTb := fun v hv2 => hv.TG_b ht (v := v) hv2
  refine Ok.loop (fun m r (x : Nat × (Nat → Int)) => fX1_spreadDots_L18 N W H d c tg se t (fX1_spreadDots_j115 N W H d c tg se t) m (x.1 : Int) (r : Int) r1.1 r1.2.1 r1.2.2.1 r1.2.2.2.1 r1.2.2.2.2 x.2) (W * H) (fun r x => x.1 ≤ 15 ∧ (∀ y, y < x.1 → TG d cu sk se we W H F t y < (r : Int) + 1) ∧ (∀ i, i < r → x.2 (64 * t + o i) = evS d cu sk se we W H F t (o i)) ∧ Row64 t x.2 dt) _ ?_ ?_ N 0 (0, dt) (by omega) (by omega) ⟨by omega, fun y hy => absurd hy (by show ¬ y < 0; omega), fun i hi => by omega, fun j _ => rfl⟩
  · intro m r x hr hI ih
    obtain ⟨i1, i2, i3, i4⟩ := hI
    show Ok (fX1_spreadDots_b18 N W H d c tg se t _ _ (x.1 : Int) (r : Int) _ _ _ _ _ x.2) _
    unfold fX1_spreadDots_b18
    refine Ok.bind fsize_ok (fun r2 h2 => ?_)
    rw [h2]
    refine Ok.ltp (by omega) ?_
    have done : ∀ w : Nat, w = lsF (TG d cu sk se we W H F t) ((r : Int) + 1) 15 → Ok (fX1_spreadDots_j55 N W H d c tg se t (fX1_spreadDots_L18 N W H d c tg se t (fX1_spreadDots_j115 N W H d c tg se t) m) (fX1_spreadDots_j115 N W H d c tg se t) (w : Int) (r : Int) r1.1 r1.2.1 r1.2.2.1 r1.2.2.2.1 r1.2.2.2.2 x.2) (fun r => (∀ p, p < W * H → r.2.2.2.2.2 (64 * t + p) = evS d cu sk se we W H F t p) ∧ Row64 t r.2.2.2.2.2 dt) := by
      intro w hw
      have hsp := lsF_spec (TG d cu sk se we W H F t) ((r : Int) + 1) 15
      rw [← hw] at hsp
      unfold fX1_spreadDots_j55
      obtain ⟨ho1, ho2, ho3⟩ := ho r hr
      have e1 : ((t : Int) * 64 + (o r : Int)).toNat = 64 * t + o r := by omega
      have h0 := hv.dB ht (o r) ho2
      rw [Int.toNat_natCast, ho1, e1]
      have hev : ∀ z, z = evS d cu sk se we W H F t (o r) → Ok (fX1_spreadDots_L18 N W H d c tg se t (fX1_spreadDots_j115 N W H d c tg se t) m (w : Int) ((r : Int) + 1) r1.1 r1.2.1 r1.2.2.1 r1.2.2.2.1 r1.2.2.2.2 (uZ x.2 (64 * t + o r) z)) (fun r => (∀ p, p < W * H → r.2.2.2.2.2 (64 * t + p) = evS d cu sk se we W H F t p) ∧ Row64 t r.2.2.2.2.2 dt) := fun z hz => by
        refine ih (w, _) ⟨hsp.1, fun y hy => ?_, fun i hi => ?_, fun j hj => ?_⟩
        · have := hsp.2.1 y hy
          omega
        · show uZ _ _ _ _ = _
          by_cases q : o i = o r
          · rw [q, uZ_at, hz]
          · rw [uZ_ne (by omega)]
            refine i3 i ?_
            rcases Nat.lt_or_ge i r with z2 | z2
            · exact z2
            · exact absurd (show o i = o r by rw [show i = r by omega]) q
        · show uZ _ _ _ _ = _
          rw [uZ_ne (by omega)]; exact i4 j hj
      refine Ok.gd (by omega) (Ok.gd (by omega) (Ok.bind (keeps_ok hv.seV h0) (fun r9 h9 => ?_)))
      have e5 : evS d cu sk se we W H F t (o r) = if d (64 * t + o r) ≤ se 1 ∨ se 2 ≤ d (64 * t + o r) then d (64 * t + o r) else bdS se (d (64 * t + o r)) (w : Int) := by
        unfold evS
        rw [if_pos h5, ho3, ← hw]
      rcases h9 with ⟨h9, q⟩ | ⟨h9, q⟩
      · refine Ok.eqn (by omega) (Ok.gd (by omega) (hev _ ?_))
        rw [e5, if_pos q]
      · refine Ok.eqp (by omega) (Ok.bind (bounded_ok hv.seV h0 (by omega)) (fun r11 h11 => Ok.gd (by omega) (hev _ ?_)))
        rw [e5, if_neg q, h11]
    refine Ok.loop (fun n i (_ : Unit) => fX1_spreadDots_L27 N W H d c tg se t (fX1_spreadDots_j55 N W H d c tg se t (fX1_spreadDots_L18 N W H d c tg se t (fX1_spreadDots_j115 N W H d c tg se t) m) (fX1_spreadDots_j115 N W H d c tg se t)) n (i : Int) (r : Int) r1.1 r1.2.1 r1.2.2.1 r1.2.2.2.1 r1.2.2.2.2 x.2) 15 (fun i _ => ∀ y, y < i → TG d cu sk se we W H F t y < (r : Int) + 1) _ ?_ ?_ N x.1 () (by omega) (by omega) i2
    · intro n i _ hi hI ih2
      show Ok (fX1_spreadDots_b27 N W H d c tg se t _ _ (i : Int) (r : Int) _ _ _ _ _ x.2) _
      unfold fX1_spreadDots_b27
      have e1 : ((t : Int) * 16 + (i : Int)).toNat = 16 * t + i := by omega
      have h3 := hTb i (by omega)
      rw [e1, htg i (by omega)]
      refine Ok.ltp (by omega) (Ok.gd (by omega) (Ok.lt (by omega) (fun q => ?_) (fun q => ?_)))
      · exact done i (lsF_eq (by omega) hI (fun _ => by omega)).symm
      · refine ih2 () (fun y hy => ?_)
        by_cases z : y = i
        · rw [z]; omega
        · exact hI y (by omega)
    · intro n _ hI
      show Ok (fX1_spreadDots_b27 N W H d c tg se t _ _ ((15 : Nat) : Int) (r : Int) _ _ _ _ _ x.2) _
      unfold fX1_spreadDots_b27
      exact Ok.ltn (by omega) (done 15 (lsF_eq (by omega) hI (fun _ => by omega)).symm)
  · intro m x hI
    obtain ⟨i1, i2, i3, i4⟩ := hI
    show Ok (fX1_spreadDots_b18 N W H d c tg se t _ _ (x.1 : Int) ((W * H : Nat) : Int) _ _ _ _ _ x.2) _
    unfold fX1_spreadDots_b18 fX1_spreadDots_j115
    refine Ok.bind fsize_ok (fun r2 h2 => ?_)
    rw [h2]
    refine Ok.ltn (by omega) (Ok.ret ⟨fun p hp => ?_, i4⟩)
    obtain ⟨j, hj, hjp⟩ := hsur p hp
    rw [← hjp]; exact i3 j hj
theorem pass_ok {N t : Nat} {d cu sk se we : Nat → Int} {W H F : Nat} {tb dt : Nat → Int} (hv : FV d cu sk se we W H F) (ht : t < F) (htb : ∀ v, v < 16 → tb (16 * t + v) = TB d cu sk se we W H F t v) (h5 : se 5 ≠ 1) (hN : 80 < N) : Ok (fX1_passByTable N W H d tb dt t) (fun g => (∀ p, p < W * H → g (64 * t + p) = evS d cu sk se we W H F t p) ∧ Row64 t g dt) := by
  have hF := hv.2.2.1
  have hS := size_b hv.1 hv.2.1
  unfold fX1_passByTable
  refine Ok.loop (fun m i g => fX1_passByTable_L2 N W H d tb t (fX1_passByTable_j48 N W H d tb t) m (i : Int) g) (W * H) (fun i g => (∀ p, p < i → g (64 * t + p) = evS d cu sk se we W H F t p) ∧ Row64 t g dt) _ ?_ ?_ N 0 dt (by omega) (by omega) ⟨fun p hp => by omega, fun j _ => rfl⟩
  · intro m i g hi hI ih
    show Ok (fX1_passByTable_b2 N W H d tb t _ _ (i : Int) g) _
    unfold fX1_passByTable_b2
    refine Ok.bind fsize_ok (fun r2 h2 => ?_)
    have h0 := hv.dB ht i hi
    obtain ⟨w, hw⟩ : ∃ w : Nat, d (64 * t + i) = (w : Int) := ⟨(d (64 * t + i)).toNat, by omega⟩
    have e1 : ((t : Int) * 64 + (i : Int)).toNat = 64 * t + i := by omega
    have e2 : ((t : Int) * 16 + (w : Int)).toNat = 16 * t + w := by omega
    rw [h2, e1, hw, e2, htb w (by omega)]
    repeat (first | refine Ok.gd (by omega) ?_ | refine Ok.ltp (by omega) ?_ | refine Ok.ltn (by omega) ?_ | refine Ok.eqp (by omega) ?_ | refine Ok.eqn (by omega) ?_)
    refine ih _ ⟨fun p hp => ?_, fun j hj => ?_⟩
    · by_cases q : p = i
      · rw [q, uZ_at]
        unfold evS
        rw [if_neg h5, hw, Int.toNat_natCast]
      · rw [uZ_ne (by omega)]; exact hI.1 p (by omega)
    · rw [uZ_ne (by omega)]; exact hI.2 j hj
  · intro m g hI
    show Ok (fX1_passByTable_b2 N W H d tb t _ _ ((W * H : Nat) : Int) g) _
    unfold fX1_passByTable_b2 fX1_passByTable_j48
    refine Ok.bind fsize_ok (fun r2 h2 => ?_)
    rw [h2]
    exact Ok.ltn (by omega) (Ok.ret hI)
/-! the class: what a look leaves, what evening leaves -/
theorem ScR_cong {b b' : Nat → Bool} {F : Nat} {many : Int} {so fo : Nat → Int} (h : ∀ t, t < F → b t = b' t) (hR : ScR b F many so fo) : ScR b' F many so fo := by
  obtain ⟨h1, h2, h3, h4⟩ := hR
  have hc : ∀ n, n ≤ F → ctB b n = ctB b' n := fun n hn => ctB_cong (fun k hk => h k (by omega))
  refine ⟨by rw [← hc F (by omega)]; exact h1, fun t ht => by rw [← hc (t + 1) (by omega)]; exact h2 t ht, fun t ht hb => by rw [← hc t (by omega)]; exact h3 t ht (by rw [h t ht]; exact hb), by rw [← hc F (by omega)]; exact h4⟩
def LkR (d cu sk se we : Nat → Int) (W H F : Nat) (c : Nat → Int) (many : Int) (so fo : Nat → Int) : Prop := CR (CU d (W * H)) F c ∧ RowB c ∧ ScR (BS d cu se (W * H)) F many so fo
theorem read_row {N S : Nat} {d c : Nat → Int} {F : Nat} (hF : F ≤ 24) (hS : S ≤ 64) (hN : 400 < N) (hd : ∀ t p, t < F → p < S → 0 ≤ d (64 * t + p) ∧ d (64 * t + p) ≤ 15) : Ok (fX9_read N d c F S) (fun g => CR (CU d S) F g ∧ RowB g) := by
  refine Ok.mono (read_ok hF hS hN hd) (fun g hg => ⟨fun t v ht hv => by rw [hg t v (by omega) hv, if_pos ht, CU_at _ _ _ _ hv], fun j hj => ?_⟩)
  have e1 : j = 16 * (j / 16) + j % 16 := by omega
  rw [e1, hg (j / 16) (j % 16) (by omega) (by omega)]
  by_cases q : j / 16 < F
  · rw [if_pos q]; have := cumS_b d S (j / 16) (j % 16); omega
  · rw [if_neg q]; omega
theorem look_ok {N : Nat} {d cu sk se we : Nat → Int} {W H F : Nat} {lk many : Int} {c so fo : Nat → Int} (hv : FV d cu sk se we W H F) (hN : 400 < N) (hlk : lk = 0 ∨ (lk = 1 ∧ LkR d cu sk se we W H F c many so fo)) : Ok (fX1_look N W H F d cu se lk c many so fo) (fun r => r.1 = 1 ∧ LkR d cu sk se we W H F r.2.1 r.2.2.1 r.2.2.2.1 r.2.2.2.2) := by
  have hF := hv.2.2.1
  have hS := size_b hv.1 hv.2.1
  unfold fX1_look
  rcases hlk with q | ⟨q, h⟩
  · refine Ok.eqp q (Ok.bind fsize_ok (fun r2 h2 => ?_))
    rw [h2]
    refine Ok.bind (read_row hF hS.2 hN (fun t p ht hp => hv.2.2.2.1 t p ht hp)) (fun r3 h3 => ?_)
    refine Ok.bind (find_ok hF (by omega) h3.2 hv.2.2.2.2.1 hv.seV.2.2.2.2.1) (fun r4 h4 => ?_)
    refine Ok.ret ⟨rfl, h3.1, h3.2, ScR_cong (fun t ht => ?_) h4⟩
    have hb := begP_cong (cu := cu) (bo := se 4) (c := r3) (c' := CU d (W * H)) (t := t) (fun u v hu hv => h3.1 u v (by omega) hv)
    show begB cu (se 4) r3 t = begB cu (se 4) (CU d (W * H)) t
    rcases begP_dec cu (se 4) r3 t with z | z
    · rw [begB_t.mpr z, begB_t.mpr (hb.mp z)]
    · rw [begB_f.mpr z, begB_f.mpr (fun z2 => z (hb.mpr z2))]
  · exact Ok.eqn (by omega) (Ok.ret ⟨q, h⟩)
def EnR (d cu sk se we : Nat → Int) (W H F : Nat) (tg tb dt c : Nat → Int) : Prop := (∀ t v, t < F → v < 16 → tg (16 * t + v) = TG d cu sk se we W H F t v) ∧ (∀ t v, t < F → v < 16 → tb (16 * t + v) = TB d cu sk se we W H F t v) ∧ (∀ t p, t < F → p < W * H → dt (64 * t + p) = EV d cu sk se we W H F (64 * t + p)) ∧ CR (CU (EV d cu sk se we W H F) (W * H)) F c ∧ RowB c
theorem cumS_cong {d d' : Nat → Int} {S t v : Nat} (h : ∀ p, p < S → d (64 * t + p) = d' (64 * t + p)) : cumS d S t v = cumS d' S t v := sI_cong (fun k hk => by rw [h k hk])
theorem CU_cong {d d' : Nat → Int} {S F : Nat} {c : Nat → Int} (h : ∀ t p, t < F → p < S → d (64 * t + p) = d' (64 * t + p)) (hc : CR (CU d S) F c) : CR (CU d' S) F c := fun t v ht hv => by rw [hc t v ht hv, CU_at _ _ _ _ hv, CU_at _ _ _ _ hv]; exact cumS_cong (fun p hp => h t p ht hp)
theorem tbS_cong {se G G' : Nat → Int} {m v : Int} (h : ∀ x, x < 15 → G x = G' x) : tbS se G m v = tbS se G' m v := by
  unfold tbS; rw [lsF_cong h]
theorem even_ok {N : Nat} {d cu sk se we : Nat → Int} {W H F : Nat} {lk en many sz : Int} {c so fo su tg tb dt ac ar no og tc : Nat → Int} (hv : FV d cu sk se we W H F) (hN : 400 < N) (hlk : lk = 0 ∨ (lk = 1 ∧ LkR d cu sk se we W H F c many so fo)) (hen : en = 0 ∨ (en = 1 ∧ EnR d cu sk se we W H F tg tb dt tc)) : Ok (fX1_even N W H F d cu se sk we lk en c many so fo su tg tb dt sz ac ar no og tc) (fun r => r.1 = 1 ∧ LkR d cu sk se we W H F r.2.2.1 r.2.2.2.1 r.2.2.2.2.1 r.2.2.2.2.2.1 ∧ r.2.1 = 1 ∧ EnR d cu sk se we W H F r.2.2.2.2.2.2.2.1 r.2.2.2.2.2.2.2.2.1 r.2.2.2.2.2.2.2.2.2.1 r.2.2.2.2.2.2.2.2.2.2.2.2.2.2.2) := by
  have hF := hv.2.2.1
  have hS := size_b hv.1 hv.2.1
  have hse := hv.seV
  have h5b := hse.2.2.2.2.2.1
  have hC := CU_b (d := d) hS.2
  unfold fX1_even
  refine Ok.bind (look_ok hv hN hlk) (fun r1 h1 => ?_)
  obtain ⟨h1a, h1b⟩ := h1
  rcases hen with q | ⟨q, h⟩
  · refine Ok.eqp q ?_
    refine Ok.bind (aim_ok h1b.2.2 (BS_0 _ _ _ _) hF h1b.1 hC h1b.2.1 hse.1 hse.2.2.2.2.2.1 hv.2.2.2.2.2.2.2.2.2 hv.2.2.2.2.2.1 (by omega)) (fun r3 h3 => ?_)
    refine Ok.loop (fun m i (x : (Nat → Int) × (Nat → Int) × Int × (Nat → Int) × (Nat → Int) × (Nat → Int) × (Nat → Int)) => fX1_even_L20 N W H F d cu se sk we (fX1_even_j65 N W H F d cu se sk we) m (i : Int) r1.1 en r1.2.1 r1.2.2.1 r1.2.2.2.1 r1.2.2.2.2 r3.1 r3.2 x.1 x.2.1 x.2.2.1 x.2.2.2.1 x.2.2.2.2.1 x.2.2.2.2.2.1 x.2.2.2.2.2.2 tc) F (fun i x => (∀ t v, t < i → v < 16 → x.1 (16 * t + v) = TB d cu sk se we W H F t v) ∧ (∀ t p, t < i → p < W * H → x.2.1 (64 * t + p) = evS d cu sk se we W H F t p)) _ ?_ ?_ N 0 (tb, dt, sz, ac, ar, no, og) (by omega) (by omega) ⟨fun t v ht => by omega, fun t p ht => by omega⟩
    · intro m i x hi hI ih
      show Ok (fX1_even_b20 N W H F d cu se sk we _ _ (i : Int) r1.1 en r1.2.1 r1.2.2.1 r1.2.2.2.1 r1.2.2.2.2 r3.1 r3.2 x.1 x.2.1 x.2.2.1 x.2.2.2.1 x.2.2.2.2.1 x.2.2.2.2.2.1 x.2.2.2.2.2.2 tc) _
      unfold fX1_even_b20
      refine Ok.ltp (by omega) ?_
      refine Ok.bind (makeTable_ok (S := W * H) hse h1b.1 hC (CU_m (fun t p ht hp => hv.2.2.2.1 t p ht hp)) hF hi (fun v hv2 => by rw [h3 i v hi hv2]; exact hv.TG_b hi hv2) (by omega)) (fun r5 h5 => ?_)
      have htb : ∀ v, v < 16 → r5 (16 * i + v) = TB d cu sk se we W H F i v := fun v hv2 => by
        rw [h5.1 v hv2]
        exact tbS_cong (fun x hx => h3 i x hi (by omega))
      have nx : ∀ (g : Nat → Int) (sz2 : Int) (a1 a2 a3 a4 : Nat → Int), (∀ p, p < W * H → g (64 * i + p) = evS d cu sk se we W H F i p) → Row64 i g x.2.1 → Ok (fX1_even_L20 N W H F d cu se sk we (fX1_even_j65 N W H F d cu se sk we) m ((i : Int) + 1) r1.1 en r1.2.1 r1.2.2.1 r1.2.2.2.1 r1.2.2.2.2 r3.1 r3.2 r5 g sz2 a1 a2 a3 a4 tc) (fun r => r.1 = 1 ∧ LkR d cu sk se we W H F r.2.2.1 r.2.2.2.1 r.2.2.2.2.1 r.2.2.2.2.2.1 ∧ r.2.1 = 1 ∧ EnR d cu sk se we W H F r.2.2.2.2.2.2.2.1 r.2.2.2.2.2.2.2.2.1 r.2.2.2.2.2.2.2.2.2.1 r.2.2.2.2.2.2.2.2.2.2.2.2.2.2.2) := fun g sz2 a1 a2 a3 a4 hg1 hg2 => by
        refine ih (r5, g, sz2, a1, a2, a3, a4) ⟨fun t v ht hv2 => ?_, fun t p ht hp => ?_⟩
        · show r5 _ = _
          by_cases z : t = i
          · rw [z]; exact htb v hv2
          · rw [h5.2 _ (by omega)]; exact hI.1 t v (by omega) hv2
        · show g _ = _
          by_cases z : t = i
          · rw [z]; exact hg1 p hp
          · rw [hg2 _ (by omega)]; exact hI.2 t p (by omega) hp
      rw [(show ((5 : Int)).toNat = 5 from rfl)]
      refine Ok.gd (by omega) ?_
      refine Ok.eq (by omega) (fun q5 => ?_) (fun q5 => ?_)
      · refine Ok.bind (spread_ok hv hi h1b.1 (fun v hv2 => h3 i v hi hv2) q5 (by omega)) (fun r9 h9 => ?_)
        exact nx _ _ _ _ _ _ h9.1 h9.2
      · refine Ok.bind (pass_ok hv hi htb q5 (by omega)) (fun r8 h8 => ?_)
        exact nx _ _ _ _ _ _ h8.1 h8.2
    · intro m x hI
      show Ok (fX1_even_b20 N W H F d cu se sk we _ _ (F : Int) r1.1 en r1.2.1 r1.2.2.1 r1.2.2.2.1 r1.2.2.2.2 r3.1 r3.2 x.1 x.2.1 x.2.2.1 x.2.2.2.1 x.2.2.2.2.1 x.2.2.2.2.2.1 x.2.2.2.2.2.2 tc) _
      unfold fX1_even_b20 fX1_even_j65
      refine Ok.ltn (by omega) (Ok.bind fsize_ok (fun r10 h10 => ?_))
      rw [h10]
      have hd2 : ∀ t p, t < F → p < W * H → x.2.1 (64 * t + p) = EV d cu sk se we W H F (64 * t + p) := fun t p ht hp => by rw [hI.2 t p ht hp, EV_at d cu sk se we W H F t p (by omega)]
      refine Ok.bind (read_row hF hS.2 hN (fun t p ht hp => by rw [hI.2 t p ht hp]; exact hv.ev_b ht hp)) (fun r11 h11 => ?_)
      exact Ok.ret ⟨h1a, h1b, rfl, fun t v ht hv2 => h3 t v ht hv2, fun t v ht hv2 => hI.1 t v ht hv2, hd2, CU_cong hd2 h11.1, h11.2⟩
  · exact Ok.eqn (by omega) (Ok.ret ⟨h1a, h1b, q, h⟩)
/-! the reference -/
theorem evens_up {N t : Nat} {s be c : Nat → Int} {i2 wm : Int} {w : Nat} {tg tb og ev : Nat → Int} {kk : Int → Int → (Nat → Int) → (Nat → Int) → (Nat → Int) → (Nat → Int) → (Nat → Int) → Option (Int × (Nat → Int) × (Nat → Int) × (Nat → Int) × (Nat → Int) × (Nat → Int))} {P : Int × (Nat → Int) × (Nat → Int) × (Nat → Int) × (Nat → Int) × (Nat → Int) → Prop} (hf : t < 24) (hw : w < 16) (hN : 20 < N) (g0 : Nat → Int)
    (hk : ∀ g : Nat → Int, (∀ v, v < 16 → g (16 * t + v) = g0 (16 * t + v) + if w ≤ v then 1 else 0) → RowOut t g g0 → Ok (kk i2 wm tg tb og g ev) P) : Ok (fX12_evens_L127 N s be c t kk N i2 (w : Int) wm tg tb og g0 ev) P := by
  refine Ok.loop (fun m i g => fX12_evens_L127 N s be c t kk m i2 (i : Int) wm tg tb og g ev) 16 (fun i g => w ≤ i ∧ (∀ v, v < 16 → g (16 * t + v) = g0 (16 * t + v) + if w ≤ v ∧ v < i then 1 else 0) ∧ RowOut t g g0) _ ?_ ?_ N w g0 (by omega) (by omega) ⟨Nat.le_refl w, fun v hv => by rw [if_neg (by omega), Int.add_zero], fun j _ => rfl⟩
  · intro m i g hi hI ih
    show Ok (fX12_evens_b127 N s be c t _ _ i2 (i : Int) wm tg tb og g ev) _
    unfold fX12_evens_b127
    have e1 : (16 * (t : Int) + (i : Int)).toNat = 16 * t + i := by omega
    rw [e1]
    repeat (first | refine Ok.gd (by omega) ?_ | refine Ok.ltp (by omega) ?_ | refine Ok.ltn (by omega) ?_ | refine Ok.eqp (by omega) ?_ | refine Ok.eqn (by omega) ?_)
    obtain ⟨hwi, hI⟩ := hI
    refine ih _ ⟨by omega, fun v hv => ?_, fun j hj => ?_⟩
    · by_cases q : v = i
      · rw [q, uZ_at, hI.1 i hi, if_neg (by omega), if_pos (by omega)]; omega
      · rw [uZ_ne (by omega), hI.1 v hv]
        by_cases q2 : w ≤ v ∧ v < i
        · rw [if_pos q2, if_pos (by omega)]
        · rw [if_neg q2, if_neg (by omega)]
    · rw [uZ_ne (by omega)]; exact hI.2 j hj
  · intro m g hI
    show Ok (fX12_evens_b127 N s be c t _ _ i2 ((16 : Nat) : Int) wm tg tb og g ev) _
    unfold fX12_evens_b127
    obtain ⟨-, hI⟩ := hI
    refine Ok.ltn (by omega) (hk g (fun v hv => ?_) hI.2)
    rw [hI.1 v hv]
    by_cases q : w ≤ v
    · rw [if_pos ⟨q, hv⟩, if_pos q]
    · rw [if_neg (by omega), if_neg q]
/-- the scenes and counts as the reference has them -/
def MlR (d cu sk se we : Nat → Int) (W H F : Nat) (me c be : Nat → Int) : Prop := (∀ t, t < F → me t = meanS d (W * H) t) ∧ CR (CU d (W * H)) F c ∧ BeR (BS d cu se (W * H)) F be
theorem mlays_ok {N : Nat} {d cu sk se we : Nat → Int} {W H F : Nat} {s me c be : Nat → Int} (hs : SR s d cu sk se we W H F) (hv : FV d cu sk se we W H F) (hN : 100 < N) : Ok (fX12_lays N s me c be) (fun r => MlR d cu sk se we W H F r.1 r.2.1 r.2.2) := Ok.mono (lays_ok hs hv hN) (fun r hr => ⟨hr.1, fun t v ht hv => by rw [hr.2.1 t v ht hv, CU_at _ _ _ _ hv], fun t ht => hr.2.2 t ht⟩)
def EsR (d cu sk se we : Nat → Int) (W H F : Nat) (t : Nat) (wm : Int) (tg tb ec ev : Nat → Int) : Prop := wm = wiS sk se (BS d cu se (W * H)) F t ∧ (∀ v, v < 16 → tg v = TG d cu sk se we W H F t v) ∧ (∀ v, v < 16 → tb v = TB d cu sk se we W H F t v) ∧ (∀ v, v < 16 → ec (16 * t + v) = CU (EV d cu sk se we W H F) (W * H) (16 * t + v)) ∧ (∀ p, p < W * H → ev (64 * t + p) = EV d cu sk se we W H F (64 * t + p))
theorem evens_ok {N t : Nat} {d cu sk se we : Nat → Int} {W H F : Nat} {s me be c tg tb og ec ev : Nat → Int} {wm : Int} (hs : SR s d cu sk se we W H F) (hv : FV d cu sk se we W H F) (hm : MlR d cu sk se we W H F me c be) (ht : t < F) (hN : 100 < N) : Ok (fX12_evens N s be c wm tg tb og ec ev t) (fun r => EsR d cu sk se we W H F t r.1 r.2.1 r.2.2.1 r.2.2.2.2.1 r.2.2.2.2.2 ∧ RowOut t r.2.2.2.2.1 ec ∧ Row64 t r.2.2.2.2.2 ev) := by
  have hF := hv.2.2.1
  have hS := size_b hv.1 hv.2.1
  have hse := hv.seV
  have h5b := hse.2.2.2.2.2.1
  have hC := CU_b (d := d) hS.2
  have s8 : s 8 = se 5 := hs.2.2.2.1 5 (by omega)
  unfold fX12_evens
  refine Ok.bind (laysTable_ok (S := W * H) hs hv hm.2.2 hm.2.1 hC (CU_m (fun t p ht hp => hv.2.2.2.1 t p ht hp)) (BS_0 _ _ _ _) ht (by omega)) (fun r1 h1 => ?_)
  obtain ⟨h1a, h1b, h1c⟩ := h1
  have main : ∀ og2 : Nat → Int, (se 5 = 1 → ∀ p, p < W * H → og2 p = kyR d W (W * H) t p) → Ok (fX12_evens_L23 N s be c t (fX12_evens_j47 N s be c t) N 0 r1.1 r1.2.1 r1.2.2 og2 ec ev) (fun r => EsR d cu sk se we W H F t r.1 r.2.1 r.2.2.1 r.2.2.2.2.1 r.2.2.2.2.2 ∧ RowOut t r.2.2.2.2.1 ec ∧ Row64 t r.2.2.2.2.2 ev) := by
    intro og2 hog
    refine Ok.loop (fun m i g => fX12_evens_L23 N s be c t (fX12_evens_j47 N s be c t) m (i : Int) r1.1 r1.2.1 r1.2.2 og2 g ev) 16 (fun i g => (∀ v, v < i → g (16 * t + v) = 0) ∧ RowOut t g ec) _ ?_ ?_ N 0 ec (by omega) (by omega) ⟨fun v hv => by omega, fun j _ => rfl⟩
    · intro m i g hi hI ih
      show Ok (fX12_evens_b23 N s be c t _ _ (i : Int) r1.1 r1.2.1 r1.2.2 og2 g ev) _
      unfold fX12_evens_b23
      have e1 : (16 * (t : Int) + (i : Int)).toNat = 16 * t + i := by omega
      rw [e1]
      repeat (first | refine Ok.gd (by omega) ?_ | refine Ok.ltp (by omega) ?_ | refine Ok.ltn (by omega) ?_ | refine Ok.eqp (by omega) ?_ | refine Ok.eqn (by omega) ?_)
      refine ih _ ⟨fun v hv2 => ?_, fun j hj => ?_⟩
      · by_cases q : v = i
        · rw [q, uZ_at]
        · rw [uZ_ne (by omega)]; exact hI.1 v (by omega)
      · rw [uZ_ne (by omega)]; exact hI.2 j hj
    · intro m g hI
      show Ok (fX12_evens_b23 N s be c t _ _ ((16 : Nat) : Int) r1.1 r1.2.1 r1.2.2 og2 g ev) _
      unfold fX12_evens_b23 fX12_evens_j47
      refine Ok.ltn (by omega) ?_
      refine Ok.loop (fun m i (x : (Nat → Int) × (Nat → Int)) => fX12_evens_L49 N s be c t (fX12_evens_j162 N s be c t) m (i : Int) r1.1 r1.2.1 r1.2.2 og2 x.1 x.2) (W * H) (fun i x => (∀ v, v < 16 → x.1 (16 * t + v) = cumS (EV d cu sk se we W H F) i t v) ∧ RowOut t x.1 ec ∧ (∀ p, p < i → x.2 (64 * t + p) = EV d cu sk se we W H F (64 * t + p)) ∧ Row64 t x.2 ev) _ ?_ ?_ N 0 (g, ev) (by omega) (by omega) ⟨fun v hv2 => hI.1 v hv2, hI.2, fun p hp => by omega, fun j _ => rfl⟩
      · intro n i x hi hI2 ih
        obtain ⟨i1, i2, i3, i4⟩ := hI2
        show Ok (fX12_evens_b49 N s be c t _ _ (i : Int) r1.1 r1.2.1 r1.2.2 og2 x.1 x.2) _
        unfold fX12_evens_b49
        refine Ok.bind (mdots_ok hs) (fun r6 h6 => ?_)
        rw [h6]
        refine Ok.ltp (by omega) (Ok.bind (mdotAt_ok hs hv ht hi) (fun r8 h8 => Ok.gd (by omega) ?_))
        have h0 := hv.dB ht i hi
        have hEb := hv.ev_b ht hi
        have e1 : (64 * (t : Int) + (i : Int)).toNat = 64 * t + i := by omega
        rw [(show ((8 : Int)).toNat = 8 from rfl), s8, e1]
        have nx : ∀ z : Int, z = evS d cu sk se we W H F t i → Ok (fX12_evens_L127 N s be c t (fX12_evens_j156 N s be c t (fX12_evens_L49 N s be c t (fX12_evens_j162 N s be c t) n) (fX12_evens_j162 N s be c t)) N (i : Int) z r1.1 r1.2.1 r1.2.2 og2 x.1 (uZ x.2 (64 * t + i) z)) (fun r => EsR d cu sk se we W H F t r.1 r.2.1 r.2.2.1 r.2.2.2.2.1 r.2.2.2.2.2 ∧ RowOut t r.2.2.2.2.1 ec ∧ Row64 t r.2.2.2.2.2 ev) := fun z hz => by
          obtain ⟨w, hw⟩ : ∃ w : Nat, z = (w : Int) := ⟨z.toNat, by omega⟩
          have hEw : EV d cu sk se we W H F (64 * t + i) = (w : Int) := by rw [EV_at d cu sk se we W H F t i (by omega), ← hz, hw]
          rw [hw]
          refine evens_up (by omega) (by omega) (by omega) x.1 (fun g hg1 hg2 => ?_)
          unfold fX12_evens_j156
          refine ih (g, _) ⟨fun v hv2 => ?_, fun j hj => ?_, fun p hp => ?_, fun j hj => ?_⟩
          · show g _ = _
            rw [hg1 v hv2, i1 v hv2]
            have e3 : cumS (EV d cu sk se we W H F) (i + 1) t v = cumS (EV d cu sk se we W H F) i t v + if EV d cu sk se we W H F (64 * t + i) ≤ (v : Int) then 1 else 0 := rfl
            rw [e3, hEw]
            by_cases q : w ≤ v
            · rw [if_pos q, if_pos (by omega)]
            · rw [if_neg q, if_neg (by omega)]
          · show g j = _
            rw [hg2 j hj]; exact i2 j hj
          · show uZ _ _ _ _ = _
            by_cases q : p = i
            · rw [q, uZ_at, hEw]
            · rw [uZ_ne (by omega)]; exact i3 p (by omega)
          · show uZ _ _ _ _ = _
            rw [uZ_ne (by omega)]; exact i4 j hj
        refine Ok.eq (by omega) (fun q5 => ?_) (fun q5 => ?_)
        · have e5 : evS d cu sk se we W H F t i = if d (64 * t + i) ≤ se 1 ∨ se 2 ≤ d (64 * t + i) then d (64 * t + i) else bdS se (d (64 * t + i)) (lsF (TG d cu sk se we W H F t) (rkS d W (W * H) t i + 1) 15 : Int) := by
            unfold evS; rw [if_pos q5]
          refine Ok.bind (isKept_ok hs hse (by omega)) (fun r11 h11 => ?_)
          rcases h11 with ⟨h9, q⟩ | ⟨h9, q⟩
          · refine Ok.eqn (by omega) (Ok.gd (by omega) (nx _ ?_))
            rw [e5, ← h8, if_pos q]
          · refine Ok.eqp (by omega) (Ok.bind (rankOf_ok hs hv ht hi (by omega) (hog q5)) (fun r13 h13 => ?_))
            have hrb := rcS_b (kyR d W (W * H) t) (W * H) (kyR d W (W * H) t i)
            have hrl := rcS_lt (k := kyR d W (W * H) t) hi
            have h13' : r13 = rcS (kyR d W (W * H) t) (W * H) (kyR d W (W * H) t i) := h13
            have hG15 : r1.2.1 15 = ((W * H : Nat) : Int) := by rw [h1b 15 (by omega)]; exact hv.TG_15 ht
            refine Ok.bind (boundedTo_ok hs hse (by omega) (fun v hv2 => by rw [h1b v hv2]; exact hv.TG_b ht hv2) (by omega) (by omega) (by omega)) (fun r14 h14 => Ok.gd (by omega) (nx _ ?_))
            rw [e5, ← h8, if_neg q, h14, h13]
            rw [lsF_cong (G := r1.2.1) (G' := TG d cu sk se we W H F t) (fun x hx => h1b x (by omega))]
        · obtain ⟨w, hw⟩ : ∃ w : Nat, r8 = (w : Int) := ⟨r8.toNat, by omega⟩
          refine Ok.gd (by omega) (Ok.gd (by omega) (nx _ ?_))
          unfold evS
          rw [if_neg q5, ← h8, hw, Int.toNat_natCast]
          exact h1c w (by omega)
      · intro n x hI2
        obtain ⟨i1, i2, i3, i4⟩ := hI2
        show Ok (fX12_evens_b49 N s be c t _ _ ((W * H : Nat) : Int) r1.1 r1.2.1 r1.2.2 og2 x.1 x.2) _
        unfold fX12_evens_b49 fX12_evens_j162
        refine Ok.bind (mdots_ok hs) (fun r6 h6 => ?_)
        rw [h6]
        exact Ok.ltn (by omega) (Ok.ret ⟨⟨h1a, h1b, h1c, fun v hv2 => by rw [i1 v hv2, CU_at _ _ _ _ hv2], i3⟩, i2, i4⟩)
  rw [(show ((8 : Int)).toNat = 8 from rfl), s8]
  refine Ok.gd (by omega) (Ok.eq (by omega) (fun q5 => ?_) (fun q5 => ?_))
  · exact Ok.bind (laysOrders_ok hs hv ht (by omega)) (fun r22 h22 => main r22 (fun _ => h22))
  · exact main og (fun z => absurd z q5)
def MeR (d cu sk se we : Nat → Int) (W H F : Nat) (ec ev : Nat → Int) : Prop := CR (CU (EV d cu sk se we W H F) (W * H)) F ec ∧ ∀ t p, t < F → p < W * H → ev (64 * t + p) = EV d cu sk se we W H F (64 * t + p)
theorem evensAll_ok {N : Nat} {d cu sk se we : Nat → Int} {W H F : Nat} {s me be c tg tb og ec ev : Nat → Int} {wm : Int} (hs : SR s d cu sk se we W H F) (hv : FV d cu sk se we W H F) (hN : 100 < N) : Ok (fX12_evensAll N s wm me c be tg tb og ec ev) (fun r => MlR d cu sk se we W H F r.2.1 r.2.2.1 r.2.2.2.1 ∧ MeR d cu sk se we W H F r.2.2.2.2.2.2.2.1 r.2.2.2.2.2.2.2.2) := by
  have hF := hv.2.2.1
  have hS := size_b hv.1 hv.2.1
  unfold fX12_evensAll
  refine Ok.bind (mlays_ok hs hv hN) (fun r1 h1 => ?_)
  refine Ok.loop (fun m i (x : Int × (Nat → Int) × (Nat → Int) × (Nat → Int) × (Nat → Int) × (Nat → Int)) => fX12_evensAll_L6 N s (fX12_evensAll_j27 N s) m (i : Int) x.1 r1.1 r1.2.1 r1.2.2 x.2.1 x.2.2.1 x.2.2.2.1 x.2.2.2.2.1 x.2.2.2.2.2) F (fun i x => CR (CU (EV d cu sk se we W H F) (W * H)) i x.2.2.2.2.1 ∧ ∀ t p, t < i → p < W * H → x.2.2.2.2.2 (64 * t + p) = EV d cu sk se we W H F (64 * t + p)) _ ?_ ?_ N 0 (wm, tg, tb, og, ec, ev) (by omega) (by omega) ⟨fun t v ht => by omega, fun t p ht => by omega⟩
  · intro m i x hi hI ih
    show Ok (fX12_evensAll_b6 N s _ _ (i : Int) x.1 r1.1 r1.2.1 r1.2.2 x.2.1 x.2.2.1 x.2.2.2.1 x.2.2.2.2.1 x.2.2.2.2.2) _
    unfold fX12_evensAll_b6
    rw [(show ((2 : Int)).toNat = 2 from rfl), hs.2.2.1]
    refine Ok.gd (by omega) (Ok.ltp (by omega) (Ok.bind (evens_ok hs hv h1 hi hN) (fun r4 h4 => ?_)))
    obtain ⟨⟨-, -, -, h4a, h4b⟩, h4c, h4d⟩ := h4
    refine ih (_, _, _, _, _, _) ⟨fun t v ht hv2 => ?_, fun t p ht hp => ?_⟩
    · show r4.2.2.2.2.1 _ = _
      by_cases z : t = i
      · rw [z]; exact h4a v hv2
      · rw [h4c _ (by omega)]; exact hI.1 t v (by omega) hv2
    · show r4.2.2.2.2.2 _ = _
      by_cases z : t = i
      · rw [z]; exact h4b p hp
      · rw [h4d _ (by omega)]; exact hI.2 t p (by omega) hp
  · intro m x hI
    show Ok (fX12_evensAll_b6 N s _ _ (F : Int) x.1 r1.1 r1.2.1 r1.2.2 x.2.1 x.2.2.1 x.2.2.2.1 x.2.2.2.2.1 x.2.2.2.2.2) _
    unfold fX12_evensAll_b6 fX12_evensAll_j27
    rw [(show ((2 : Int)).toNat = 2 from rfl), hs.2.2.1]
    exact Ok.gd (by omega) (Ok.ltn (by omega) (Ok.ret ⟨h1, hI⟩))
end PD
