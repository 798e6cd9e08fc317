/-! Questions, first part: a frame's levels, its measures. -/
section PF
abbrev EvTy : Type := Int × Int × (Nat → Int) × Int × (Nat → Int) × (Nat → Int) × (Nat → Int) × (Nat → Int) × (Nat → Int) × (Nat → Int) × Int × (Nat → Int) × (Nat → Int) × (Nat → Int) × (Nat → Int) × (Nat → Int)
def LkI (d cu sk se we : Nat → Int) (W H F : Nat) (lk : Int) (c : Nat → Int) (many : Int) (so fo : Nat → Int) : Prop := lk = 0 ∨ (lk = 1 ∧ LkR d cu sk se we W H F c many so fo)
def EnI (d cu sk se we : Nat → Int) (W H F : Nat) (en : Int) (tg tb dt tc : Nat → Int) : Prop := en = 0 ∨ (en = 1 ∧ EnR d cu sk se we W H F tg tb dt tc)
def EvT (d cu sk se we : Nat → Int) (W H F : Nat) (q : EvTy) : Prop := LkI d cu sk se we W H F q.1 q.2.2.1 q.2.2.2.1 q.2.2.2.2.1 q.2.2.2.2.2.1 ∧ EnI d cu sk se we W H F q.2.1 q.2.2.2.2.2.2.2.1 q.2.2.2.2.2.2.2.2.1 q.2.2.2.2.2.2.2.2.2.1 q.2.2.2.2.2.2.2.2.2.2.2.2.2.2.2
theorem looked_ok {N : Nat} {d cu sk se we : Nat → Int} {W H F : Nat} {lk many : Int} {c so fo : Nat → Int} (hv : FV d cu sk se we W H F) (hN : 400 < N) (hl : LkI d cu sk se we W H F lk c many so fo) : Ok (fX11_looked N W H F d cu se lk c many so fo) (fun r => r.1 = 1 ∧ LkR d cu sk se we W H F r.2.1 r.2.2.1 r.2.2.2.1 r.2.2.2.2) := by
  unfold fX11_looked
  exact Ok.bind (look_ok hv hN hl) (fun r1 h1 => Ok.ret h1)
theorem evened_ok {N : Nat} {d cu sk se we : Nat → Int} {W H F : Nat} {lk en many sz : Int} {c so fo su tg tb dt ac ar no og tc : Nat → Int} (hv : FV d cu sk se we W H F) (hN : 400 < N) (hl : LkI d cu sk se we W H F lk c many so fo) (he : EnI d cu sk se we W H F en tg tb dt tc) : Ok (fX11_evened N W H F d cu se sk we lk en c many so fo su tg tb dt sz ac ar no og tc) (fun r => r.1 = 1 ∧ LkR d cu sk se we W H F r.2.2.1 r.2.2.2.1 r.2.2.2.2.1 r.2.2.2.2.2.1 ∧ r.2.1 = 1 ∧ EnR d cu sk se we W H F r.2.2.2.2.2.2.2.1 r.2.2.2.2.2.2.2.2.1 r.2.2.2.2.2.2.2.2.2.1 r.2.2.2.2.2.2.2.2.2.2.2.2.2.2.2) := by
  unfold fX11_evened
  exact Ok.bind (even_ok hv hN hl he) (fun r1 h1 => Ok.ret h1)
theorem hasFrame_t {N F : Nat} {x : Int} (hF : F ≤ 24) (h : 0 ≤ x ∧ x < F) : Ok (fX2_hasFrame N F x) (fun r => r = 1) := by
  unfold fX2_hasFrame
  exact Ok.ltn (by omega) (Ok.ltp (by omega) (Ok.ret rfl))
theorem hasFrame_f {N F : Nat} {x : Int} (hF : F ≤ 24) (hx : -2147483648 ≤ x ∧ x < 2147483648) (h : ¬ (0 ≤ x ∧ x < F)) : Ok (fX2_hasFrame N F x) (fun r => r = 0) := by
  unfold fX2_hasFrame
  exact Ok.lt (by omega) (fun _ => Ok.ret rfl) (fun _ => Ok.ltn (by omega) (Ok.ret rfl))
theorem hasPlace_t {N W H : Nat} {x : Int} (hS : W * H ≤ 64) (h : 0 ≤ x ∧ x < ((W * H : Nat) : Int)) : Ok (fX2_hasPlace N W H x) (fun r => r = 1) := by
  unfold fX2_hasPlace
  exact Ok.ltn (by omega) (Ok.bind fsize_ok (fun r2 h2 => Ok.ltp (by omega) (Ok.ret rfl)))
theorem hasPlace_f {N W H : Nat} {x : Int} (hS : W * H ≤ 64) (hx : -2147483648 ≤ x ∧ x < 2147483648) (h : ¬ (0 ≤ x ∧ x < ((W * H : Nat) : Int))) : Ok (fX2_hasPlace N W H x) (fun r => r = 0) := by
  unfold fX2_hasPlace
  exact Ok.lt (by omega) (fun _ => Ok.ret rfl) (fun _ => Ok.bind fsize_ok (fun r2 h2 => Ok.ltn (by omega) (Ok.ret rfl)))
theorem shade_t {N : Nat} {x : Int} (h : 0 ≤ x ∧ x < 16) : Ok (fX11_isShade N x) (fun r => r = 1) := by
  unfold fX11_isShade
  exact Ok.ltn (by omega) (Ok.ltp (by omega) (Ok.ret rfl))
theorem shade_f {N : Nat} {x : Int} (hx : -2147483648 ≤ x ∧ x < 2147483648) (h : ¬ (0 ≤ x ∧ x < 16)) : Ok (fX11_isShade N x) (fun r => r = 0) := by
  unfold fX11_isShade
  exact Ok.lt (by omega) (fun _ => Ok.ret rfl) (fun _ => Ok.ltn (by omega) (Ok.ret rfl))
theorem isIn_t {N : Nat} {v a b : Int} (hb : (-2147483648 ≤ v ∧ v < 2147483648) ∧ (-2147483648 ≤ a ∧ a < 2147483648) ∧ -2147483648 ≤ b ∧ b < 2147483648) (h : a ≤ v ∧ v ≤ b) : Ok (fX12_isIn N v a b) (fun r => r = 1) := by
  rw [isIn_eq hb, if_pos h]; exact Ok.ret rfl
theorem isIn_f {N : Nat} {v a b : Int} (hb : (-2147483648 ≤ v ∧ v < 2147483648) ∧ (-2147483648 ≤ a ∧ a < 2147483648) ∧ -2147483648 ≤ b ∧ b < 2147483648) (h : ¬ (a ≤ v ∧ v ≤ b)) : Ok (fX12_isIn N v a b) (fun r => r = 0) := by
  rw [isIn_eq hb, if_neg h]; exact Ok.ret rfl
theorem isFrame_t {N F : Nat} {s : Nat → Int} {x : Int} (s2 : s 2 = (F : Int)) (hF : F ≤ 24) (h : 0 ≤ x ∧ x < F) : Ok (fX12_isFrame N s x) (fun r => r = 1) := Ok.mono (isFrame_ok s2 hF (by omega)) (fun r hr => by rcases hr with z | z; exact z.1; exact absurd h z.2)
theorem isFrame_f {N F : Nat} {s : Nat → Int} {x : Int} (s2 : s 2 = (F : Int)) (hF : F ≤ 24) (hx : -2147483648 ≤ x ∧ x < 2147483648) (h : ¬ (0 ≤ x ∧ x < F)) : Ok (fX12_isFrame N s x) (fun r => r = 0) := Ok.mono (isFrame_ok s2 hF hx) (fun r hr => by rcases hr with z | z; exact absurd z.2 h; exact z.1)
theorem mshade_t {N : Nat} {x : Int} (h : 0 ≤ x ∧ x < 16) : Ok (fX12_isShade N x) (fun r => r = 1) := by
  unfold fX12_isShade
  exact Ok.bind (isIn_t (by omega) (by omega)) (fun r hr => Ok.gd (by omega) (Ok.ret hr))
theorem mshade_f {N : Nat} {x : Int} (hx : -2147483648 ≤ x ∧ x < 2147483648) (h : ¬ (0 ≤ x ∧ x < 16)) : Ok (fX12_isShade N x) (fun r => r = 0) := by
  unfold fX12_isShade
  exact Ok.bind (isIn_f (by omega) (by omega)) (fun r hr => Ok.gd (by omega) (Ok.ret hr))
theorem isPlace_t {N : Nat} {d cu sk se we : Nat → Int} {W H F : Nat} {s : Nat → Int} {x : Int} (hs : SR s d cu sk se we W H F) (hS : W * H ≤ 64) (h : 0 ≤ x ∧ x < ((W * H : Nat) : Int)) : Ok (fX12_isPlace N s x) (fun r => r = 1) := by
  unfold fX12_isPlace
  exact Ok.bind (mdots_ok hs) (fun r1 h1 => Ok.bind (isIn_t (by omega) (by omega)) (fun r hr => Ok.gd (by omega) (Ok.ret hr)))
theorem isPlace_f {N : Nat} {d cu sk se we : Nat → Int} {W H F : Nat} {s : Nat → Int} {x : Int} (hs : SR s d cu sk se we W H F) (hS : W * H ≤ 64) (hx : -2147483648 ≤ x ∧ x < 2147483648) (h : ¬ (0 ≤ x ∧ x < ((W * H : Nat) : Int))) : Ok (fX12_isPlace N s x) (fun r => r = 0) := by
  unfold fX12_isPlace
  exact Ok.bind (mdots_ok hs) (fun r1 h1 => Ok.bind (isIn_f (by omega) (by omega)) (fun r hr => Ok.gd (by omega) (Ok.ret hr)))
/-! level -/
noncomputable def lvS (d cu sk se we : Nat → Int) (W H F : Nat) (t v : Nat) (x : Int) : Int := if x = 0 then numS (CU d (W * H)) t v else if x = 1 then CU d (W * H) (16 * t + v) else if x = 2 then TG d cu sk se we W H F t v else if x = 3 then TB d cu sk se we W H F t v else numS (CU (EV d cu sk se we W H F) (W * H)) t v
theorem clevel_ok {N t v : Nat} {d cu sk se we : Nat → Int} {W H F : Nat} {lk en many sz : Int} {c so fo su tg tb dt ac ar no og tc : Nat → Int} {x3 : Int} (hv : FV d cu sk se we W H F) (hN : 400 < N) (hl : LkI d cu sk se we W H F lk c many so fo) (he : EnI d cu sk se we W H F en tg tb dt tc) (ht : t < F) (hv2 : v < 16) (hx3 : 0 ≤ x3 ∧ x3 ≤ 4) : Ok (fX11_level N W H F d cu se sk we lk en c many so fo su tg tb dt sz ac ar no og tc t v x3) (fun r => r.1 = lvS d cu sk se we W H F t v x3 ∧ EvT d cu sk se we W H F r.2) := by
  have hF := hv.2.2.1
  have e1 : ((t : Int) * 16 + (v : Int)).toNat = 16 * t + v := by omega
  unfold fX11_level lvS
  rw [e1]
  refine Ok.bind (hasFrame_t hF (by omega)) (fun r1 h1 => Ok.eqn (by omega) (Ok.ltn (by omega) (Ok.ltn (by omega) (Ok.bind (shade_t (by omega)) (fun r5 h5 => Ok.eqn (by omega) ?_)))))
  refine Ok.eq (by omega) (fun q => ?_) (fun q => ?_)
  · rw [if_pos q]
    refine Ok.bind (looked_ok hv hN hl) (fun r8 h8 => Ok.bind (number_ok (by omega) hv2) (fun r9 h9 => Ok.ret ⟨?_, Or.inr h8, he⟩))
    rw [← h8.2.1.num ht hv2]; exact h9
  · rw [if_neg q]
    refine Ok.eq (by omega) (fun q1 => ?_) (fun q1 => ?_)
    · rw [if_pos q1]
      exact Ok.bind (looked_ok hv hN hl) (fun r8 h8 => Ok.gd (by omega) (Ok.ret ⟨h8.2.1 t v ht hv2, Or.inr h8, he⟩))
    · rw [if_neg q1]
      refine Ok.eq (by omega) (fun q2 => ?_) (fun q2 => ?_)
      · rw [if_pos q2]
        exact Ok.bind (evened_ok hv hN hl he) (fun r8 h8 => Ok.gd (by omega) (Ok.ret ⟨h8.2.2.2.1 t v ht hv2, Or.inr ⟨h8.1, h8.2.1⟩, Or.inr h8.2.2⟩))
      · rw [if_neg q2]
        refine Ok.eq (by omega) (fun q3 => ?_) (fun q3 => ?_)
        · rw [if_pos q3]
          exact Ok.bind (evened_ok hv hN hl he) (fun r8 h8 => Ok.gd (by omega) (Ok.ret ⟨h8.2.2.2.2.1 t v ht hv2, Or.inr ⟨h8.1, h8.2.1⟩, Or.inr h8.2.2⟩))
        · rw [if_neg q3]
          refine Ok.bind (evened_ok hv hN hl he) (fun r8 h8 => Ok.bind (number_ok (by omega) hv2) (fun r9 h9 => Ok.ret ⟨?_, Or.inr ⟨h8.1, h8.2.1⟩, Or.inr h8.2.2⟩))
          rw [← h8.2.2.2.2.2.2.1.num ht hv2]; exact h9
theorem EsR.cr {d cu sk se we : Nat → Int} {W H F : Nat} {t : Nat} {wm : Int} {tg tb ec ev : Nat → Int} (h : EsR d cu sk se we W H F t wm tg tb ec ev) {v : Nat} (hv : v < 16) : numS ec t v = numS (CU (EV d cu sk se we W H F) (W * H)) t v := by
  obtain ⟨-, -, -, h, -⟩ := h
  unfold numS
  rw [h v hv]
  by_cases q : v = 0
  · rw [if_pos q, if_pos q]
  · rw [if_neg q, if_neg q, show 16 * t + v - 1 = 16 * t + (v - 1) by omega, h (v - 1) (by omega)]
theorem mlevel_ok {N t v : Nat} {d cu sk se we : Nat → Int} {W H F : Nat} {th wm : Int} {me mc be mt mb mo ec ev : Nat → Int} {s : Nat → Int} {x3 : Int} (hs : SR s d cu sk se we W H F) (hv : FV d cu sk se we W H F) (hN : 400 < N) (ht : t < F) (hv2 : v < 16) (hx3 : 0 ≤ x3 ∧ x3 ≤ 4) : Ok (fX12_level N s th wm me mc be mt mb mo ec ev t v x3) (fun r => r.1 = lvS d cu sk se we W H F t v x3) := by
  have hF := hv.2.2.1
  have hC := CU_b (d := d) (size_b hv.1 hv.2.1).2
  unfold fX12_level lvS
  rw [Int.toNat_natCast]
  refine Ok.bind (isFrame_t hs.2.2.1 hF (by omega)) (fun r1 h1 => Ok.eqn (by omega) (Ok.bind (isIn_t (by omega) (by omega)) (fun r3 h3 => Ok.eqn (by omega) (Ok.bind (mshade_t (by omega)) (fun r5 h5 => Ok.eqn (by omega) ?_)))))
  refine Ok.bind (mlays_ok hs hv (by omega)) (fun r7 h7 => Ok.bind (evens_ok hs hv h7 ht (by omega)) (fun r8 h8 => ?_))
  obtain ⟨h8, -, -⟩ := h8
  refine Ok.eq (by omega) (fun q => ?_) (fun q => ?_)
  · rw [if_pos q]
    refine Ok.bind (countIn_ok (by omega) hv2) (fun r9 h9 => Ok.ret ?_)
    rw [← h7.2.1.num ht hv2]; exact h9
  · rw [if_neg q]
    refine Ok.eq (by omega) (fun q1 => ?_) (fun q1 => ?_)
    · rw [if_pos q1]
      exact Ok.bind (cumAt_ok h7.2.1 hF ht hv2) (fun r9 h9 => Ok.ret h9)
    · rw [if_neg q1]
      refine Ok.eq (by omega) (fun q2 => ?_) (fun q2 => ?_)
      · rw [if_pos q2]
        exact Ok.gd (by omega) (Ok.ret (h8.2.1 v hv2))
      · rw [if_neg q2]
        refine Ok.eq (by omega) (fun q3 => ?_) (fun q3 => ?_)
        · rw [if_pos q3]
          exact Ok.gd (by omega) (Ok.ret (h8.2.2.1 v hv2))
        · rw [if_neg q3]
          refine Ok.bind (countIn_ok (by omega) hv2) (fun r9 h9 => Ok.ret ?_)
          rw [← h8.cr hv2]; exact h9
theorem level_j {N : Nat} {d cu sk se we : Nat → Int} {W H F : Nat} {lk en many sz : Int} {c so fo su tg tb dt ac ar no og tc : Nat → Int} {th wm : Int} {me mc be mt mb mo ec ev : Nat → Int} {s : Nat → Int} {x1 x2 x3 : Int} (hs : SR s d cu sk se we W H F) (hv : FV d cu sk se we W H F) (hN : 400 < N) (hl : LkI d cu sk se we W H F lk c many so fo) (he : EnI d cu sk se we W H F en tg tb dt tc) (hx1 : -2147483648 ≤ x1 ∧ x1 < 2147483648) (hx2 : -2147483648 ≤ x2 ∧ x2 < 2147483648) (hx3 : -2147483648 ≤ x3 ∧ x3 < 2147483648) : Ok (fX11_level N W H F d cu se sk we lk en c many so fo su tg tb dt sz ac ar no og tc x1 x2 x3) (fun r => EvT d cu sk se we W H F r.2 ∧ Ok (fX12_level N s th wm me mc be mt mb mo ec ev x1 x2 x3) (fun q => r.1 = q.1)) := by
  have hF := hv.2.2.1
  by_cases f1 : 0 ≤ x1 ∧ x1 < F
  · by_cases f3 : 0 ≤ x3 ∧ x3 ≤ 4
    · by_cases f2 : 0 ≤ x2 ∧ x2 < 16
      · obtain ⟨t, rfl⟩ : ∃ t : Nat, x1 = (t : Int) := ⟨x1.toNat, by omega⟩
        obtain ⟨v, rfl⟩ : ∃ v : Nat, x2 = (v : Int) := ⟨x2.toNat, by omega⟩
        exact Ok.mono (clevel_ok hv hN hl he (by omega) (by omega) f3) (fun r hr => ⟨hr.2, Ok.mono (mlevel_ok hs hv hN (by omega) (by omega) f3) (fun q hq => by rw [hr.1, hq])⟩)
      · unfold fX11_level
        refine Ok.bind (hasFrame_t hF f1) (fun r1 h1 => Ok.eqn (by omega) (Ok.ltn (by omega) (Ok.ltn (by omega) (Ok.bind (shade_f hx2 f2) (fun r5 h5 => Ok.eqp h5 (Ok.ret ⟨⟨hl, he⟩, ?_⟩))))))
        unfold fX12_level
        exact Ok.bind (isFrame_t hs.2.2.1 hF f1) (fun r1 h1 => Ok.eqn (by omega) (Ok.bind (isIn_t (by omega) f3) (fun r3 h3 => Ok.eqn (by omega) (Ok.bind (mshade_f hx2 f2) (fun r5 h5 => Ok.eqp h5 (Ok.ret rfl))))))
    · unfold fX11_level
      have hM : Ok (fX12_level N s th wm me mc be mt mb mo ec ev x1 x2 x3) (fun q => -2 = q.1) := by
        unfold fX12_level
        exact Ok.bind (isFrame_t hs.2.2.1 hF f1) (fun r1 h1 => Ok.eqn (by omega) (Ok.bind (isIn_f (by omega) f3) (fun r3 h3 => Ok.eqp h3 (Ok.ret rfl))))
      exact Ok.bind (hasFrame_t hF f1) (fun r1 h1 => Ok.eqn (by omega) (Ok.lt (by omega) (fun _ => Ok.ret ⟨⟨hl, he⟩, hM⟩) (fun _ => Ok.ltp (by omega) (Ok.ret ⟨⟨hl, he⟩, hM⟩))))
  · unfold fX11_level
    refine Ok.bind (hasFrame_f hF hx1 f1) (fun r1 h1 => Ok.eqp h1 (Ok.ret ⟨⟨hl, he⟩, ?_⟩))
    unfold fX12_level
    exact Ok.bind (isFrame_f hs.2.2.1 hF hx1 f1) (fun r1 h1 => Ok.eqp h1 (Ok.ret rfl))
/-! frame -/
noncomputable def frS (d cu sk se we : Nat → Int) (W H F : Nat) (t : Nat) (x : Int) : Int := if x = 0 then meanS d (W * H) t else if x = 1 then (ctB (BS d cu se (W * H)) (t + 1) : Int) - 1 else if x = 2 then sk t else if x = 3 then (if BS d cu se (W * H) t then 1 else 0) else if x = 4 then wiS sk se (BS d cu se (W * H)) F t else if x = 5 then shadesS (CU d (W * H)) t else if x = 6 then shadesS (CU (EV d cu sk se we W H F) (W * H)) t else if x = 7 then meanS (EV d cu sk se we W H F) (W * H) t else chS d (EV d cu sk se we W H F) (W * H) t
theorem EnR.db {d cu sk se we : Nat → Int} {W H F : Nat} {tg tb dt tc : Nat → Int} (h : EnR d cu sk se we W H F tg tb dt tc) (hv : FV d cu sk se we W H F) : DB dt (W * H) F := fun t p ht hp => by rw [h.2.2.1 t p ht hp]; exact hv.EV_b t p ht hp
theorem cframe_ok {N t : Nat} {d cu sk se we : Nat → Int} {W H F : Nat} {lk en many sz : Int} {c so fo su tg tb dt ac ar no og tc : Nat → Int} {x2 : Int} (hv : FV d cu sk se we W H F) (hN : 400 < N) (hl : LkI d cu sk se we W H F lk c many so fo) (he : EnI d cu sk se we W H F en tg tb dt tc) (ht : t < F) (hx2 : 0 ≤ x2 ∧ x2 ≤ 8) : Ok (fX11_frame N W H F d cu se sk we lk en c many so fo su tg tb dt sz ac ar no og tc t x2) (fun r => r.1 = frS d cu sk se we W H F t x2 ∧ EvT d cu sk se we W H F r.2) := by
  have hF := hv.2.2.1
  have hS := size_b hv.1 hv.2.1
  unfold fX11_frame frS
  rw [Int.toNat_natCast]
  refine Ok.bind (hasFrame_t hF (by omega)) (fun r1 h1 => Ok.eqn (by omega) ?_)
  by_cases q0 : x2 = 0
  · rw [if_pos q0]
    exact Ok.eqp q0 (Ok.bind (looked_ok hv hN hl) (fun r8 h8 => Ok.bind (cmean_ok hv h8.2.1 ht (by omega)) (fun r9 h9 => Ok.ret ⟨h9, Or.inr h8, he⟩)))
  rw [if_neg q0]; refine Ok.eqn (by omega) ?_
  by_cases q1 : x2 = 1
  · rw [if_pos q1]
    exact Ok.eqp q1 (Ok.bind (looked_ok hv hN hl) (fun r8 h8 => Ok.gd (by omega) (Ok.ret ⟨h8.2.2.2.2.1 t ht, Or.inr h8, he⟩)))
  rw [if_neg q1]; refine Ok.eqn (by omega) ?_
  by_cases q2 : x2 = 2
  · rw [if_pos q2]
    exact Ok.eqp q2 (Ok.gd (by omega) (Ok.ret ⟨rfl, hl, he⟩))
  rw [if_neg q2]; refine Ok.eqn (by omega) ?_
  by_cases q3 : x2 = 3
  · rw [if_pos q3]
    refine Ok.eqp q3 (Ok.bind (looked_ok hv hN hl) (fun r8 h8 => Ok.bind (begins_ok ht hF (BS_0 _ _ _ _) h8.2.2.2) (fun r9 h9 => ?_)))
    cases hb : BS d cu se (W * H) t
    · rw [hb] at h9
      exact Ok.eqp h9 (Ok.ret ⟨rfl, Or.inr h8, he⟩)
    · rw [hb] at h9
      have h9' : r9 = 1 := h9
      exact Ok.eqn (by omega) (Ok.ret ⟨rfl, Or.inr h8, he⟩)
  rw [if_neg q3]; refine Ok.eqn (by omega) ?_
  by_cases q4 : x2 = 4
  · rw [if_pos q4]
    exact Ok.eqp q4 (Ok.bind (looked_ok hv hN hl) (fun r8 h8 => Ok.bind (windowSize_ok h8.2.2.2 (BS_0 _ _ _ _) hF ht hv.seV hv.2.2.2.2.2.1 (by omega)) (fun r9 h9 => Ok.ret ⟨h9, Or.inr h8, he⟩)))
  rw [if_neg q4]; refine Ok.eqn (by omega) ?_
  by_cases q5 : x2 = 5
  · rw [if_pos q5]
    exact Ok.eqp q5 (Ok.bind (looked_ok hv hN hl) (fun r8 h8 => Ok.bind (shades_ok (by omega) (by omega) h8.2.2.1) (fun r9 h9 => Ok.ret ⟨by rw [← shadesS_cong h8.2.1 ht]; exact h9, Or.inr h8, he⟩)))
  rw [if_neg q5]; refine Ok.eqn (by omega) ?_
  by_cases q6 : x2 = 6
  · rw [if_pos q6]
    exact Ok.eqp q6 (Ok.bind (evened_ok hv hN hl he) (fun r8 h8 => Ok.bind (shades_ok (by omega) (by omega) h8.2.2.2.2.2.2.2) (fun r9 h9 => Ok.ret ⟨by rw [← shadesS_cong h8.2.2.2.2.2.2.1 ht]; exact h9, Or.inr ⟨h8.1, h8.2.1⟩, Or.inr h8.2.2⟩)))
  rw [if_neg q6]; refine Ok.eqn (by omega) ?_
  by_cases q7 : x2 = 7
  · rw [if_pos q7]
    exact Ok.eqp q7 (Ok.bind (evened_ok hv hN hl he) (fun r8 h8 => Ok.bind (cmean_ok hv.EV_v h8.2.2.2.2.2.2.1 ht (by omega)) (fun r9 h9 => Ok.ret ⟨h9, Or.inr ⟨h8.1, h8.2.1⟩, Or.inr h8.2.2⟩)))
  rw [if_neg q7]; refine Ok.eqn (by omega) (Ok.eqp (by omega) ?_)
  exact Ok.bind (evened_ok hv hN hl he) (fun r8 h8 => Ok.bind (changedIn_ok hS.2 hF ht hv.2.2.2.1 (h8.2.2.2.db hv) (by omega)) (fun r9 h9 => Ok.ret ⟨by rw [← chS_cong (fun _ _ => rfl) (fun p hp => h8.2.2.2.2.2.1 t p ht hp)]; exact h9, Or.inr ⟨h8.1, h8.2.1⟩, Or.inr h8.2.2⟩))
theorem shadesE_ok {N : Nat} {C c : Nat → Int} {t : Nat} (ht : t < 24) (hN : 20 < N) (hC : RowB C) (h : ∀ v, v < 16 → c (16 * t + v) = C (16 * t + v)) : Ok (fX12_shadesIn N c t) (fun r => r = shadesS C t) := by
  have hn : ∀ v, v < 16 → numS c t v = numS C t v := fun v hv => by
    unfold numS
    rw [h v hv]
    by_cases q : v = 0
    · rw [if_pos q, if_pos q]
    · rw [if_neg q, if_neg q, show 16 * t + v - 1 = 16 * t + (v - 1) by omega, h (v - 1) (by omega)]
  unfold fX12_shadesIn
  refine Ok.loop (fun m i a => fX12_shadesIn_L4 N c t (fX12_shadesIn_j33 N c t) m a (i : Int)) 16 (fun i a => a = sI (fun v => if 0 < numS C t v then 1 else 0) i) _ ?_ ?_ N 0 0 (by omega) (by omega) rfl
  · intro m i a hi hI ih
    show Ok (fX12_shadesIn_b4 N c t _ _ a (i : Int)) _
    unfold fX12_shadesIn_b4
    refine Ok.ltp (by omega) (Ok.bind (countIn_ok ht hi) (fun r hr => ?_))
    rw [hn i hi] at hr
    have hb := numS_b hC ht hi
    refine Ok.lt (by omega) (fun q => ih _ ?_) (fun q => ih _ ?_)
    · rw [sI_succ, hI, if_pos (by omega)]
    · rw [sI_succ, hI, if_neg (by omega)]
  · intro m a hI
    show Ok (fX12_shadesIn_b4 N c t _ _ a ((16 : Nat) : Int)) _
    unfold fX12_shadesIn_b4 fX12_shadesIn_j33
    exact Ok.ltn (by omega) (Ok.ret hI)
theorem changedE_ok {N t : Nat} {d cu sk se we : Nat → Int} {W H F : Nat} {s ev : Nat → Int} (hs : SR s d cu sk se we W H F) (hv : FV d cu sk se we W H F) (ht : t < F) (he : ∀ p, p < W * H → ev (64 * t + p) = EV d cu sk se we W H F (64 * t + p)) (hN : 80 < N) : Ok (fX12_changedOf N s ev t) (fun r => r = chS d (EV d cu sk se we W H F) (W * H) t) := by
  have hF := hv.2.2.1
  have hS := size_b hv.1 hv.2.1
  unfold fX12_changedOf
  refine Ok.loop (fun m i a => fX12_changedOf_L4 N s ev t (fX12_changedOf_j46 N s ev t) m a (i : Int)) (W * H) (fun i a => a = chS d (EV d cu sk se we W H F) i t) _ ?_ ?_ N 0 0 (by omega) (by omega) rfl
  · intro m i a hi hI ih
    show Ok (fX12_changedOf_b4 N s ev t _ _ a (i : Int)) _
    unfold fX12_changedOf_b4
    refine Ok.bind (mdots_ok hs) (fun r1 h1 => ?_)
    have e1 : (64 * (t : Int) + (i : Int)).toNat = 64 * t + i := by omega
    have h2 := hv.dB ht i hi
    have h3 := hv.EV_b t i ht hi
    rw [h1, e1, he i hi]
    refine Ok.ltp (by omega) (Ok.gd (by omega) (Ok.bind (mdotAt_ok hs hv ht hi) (fun r4 h4 => ?_)))
    have e2 : chS d (EV d cu sk se we W H F) (i + 1) t = chS d (EV d cu sk se we W H F) i t + if EV d cu sk se we W H F (64 * t + i) = d (64 * t + i) then 0 else 1 := rfl
    refine Ok.eq (by omega) (fun q => ih _ ?_) (fun q => ih _ ?_)
    · rw [e2, if_pos (by rw [q, h4]), hI]
    · rw [e2, if_neg (by rw [← h4]; exact q), hI]
  · intro m a hI
    show Ok (fX12_changedOf_b4 N s ev t _ _ a ((W * H : Nat) : Int)) _
    unfold fX12_changedOf_b4 fX12_changedOf_j46
    refine Ok.bind (mdots_ok hs) (fun r1 h1 => ?_)
    rw [h1]
    exact Ok.ltn (by omega) (Ok.ret hI)
theorem mframe_ok {N t : Nat} {d cu sk se we : Nat → Int} {W H F : Nat} {th wm : Int} {me mc be mt mb mo ec ev : Nat → Int} {s : Nat → Int} {x2 : Int} (hs : SR s d cu sk se we W H F) (hv : FV d cu sk se we W H F) (hN : 400 < N) (ht : t < F) (hx2 : 0 ≤ x2 ∧ x2 ≤ 8) : Ok (fX12_frame N s th wm me mc be mt mb mo ec ev t x2) (fun r => r.1 = frS d cu sk se we W H F t x2) := by
  have hF := hv.2.2.1
  have hS := size_b hv.1 hv.2.1
  have hC := CU_b (d := d) hS.2
  unfold fX12_frame frS
  rw [Int.toNat_natCast]
  refine Ok.bind (isFrame_t hs.2.2.1 hF (by omega)) (fun r1 h1 => Ok.eqn (by omega) (Ok.bind (isIn_t (by omega) (by omega)) (fun r3 h3 => Ok.eqn (by omega) ?_)))
  refine Ok.bind (mlays_ok hs hv (by omega)) (fun r7 h7 => Ok.bind (evens_ok hs hv h7 ht (by omega)) (fun r8 h8 => ?_))
  obtain ⟨h8, -, -⟩ := h8
  by_cases q0 : x2 = 0
  · rw [if_pos q0]
    exact Ok.eqp q0 (Ok.gd (by omega) (Ok.ret (h7.1 t ht)))
  rw [if_neg q0]; refine Ok.eqn (by omega) ?_
  by_cases q1 : x2 = 1
  · rw [if_pos q1]
    exact Ok.eqp q1 (Ok.bind (sceneOf_ok h7.2.2 hF ht (by omega)) (fun r9 h9 => Ok.ret h9))
  rw [if_neg q1]; refine Ok.eqn (by omega) ?_
  by_cases q2 : x2 = 2
  · rw [if_pos q2]
    refine Ok.eqp q2 (Ok.bind (isSkipped_ok hs.2.2.2.2.2.2.1 (by omega) (hv.2.2.2.2.2.1 t (by omega))) (fun r9 h9 => ?_))
    rcases hv.2.2.2.2.2.1 t (by omega) with z | z
    · exact Ok.eqp (by omega) (Ok.ret z.symm)
    · exact Ok.eqn (by omega) (Ok.ret z.symm)
  rw [if_neg q2]; refine Ok.eqn (by omega) ?_
  by_cases q3 : x2 = 3
  · rw [if_pos q3]
    refine Ok.eqp q3 (Ok.gd (by omega) ?_)
    rcases h7.2.2.cases ht with ⟨z, z2⟩ | ⟨z, z2⟩
    · rw [z]; exact Ok.eqn (by omega) (Ok.ret rfl)
    · rw [z]; exact Ok.eqp z2 (Ok.ret rfl)
  rw [if_neg q3]; refine Ok.eqn (by omega) ?_
  by_cases q4 : x2 = 4
  · rw [if_pos q4]
    exact Ok.eqp q4 (Ok.ret h8.1)
  rw [if_neg q4]; refine Ok.eqn (by omega) ?_
  by_cases q5 : x2 = 5
  · rw [if_pos q5]
    exact Ok.eqp q5 (Ok.bind (shadesE_ok (by omega) (by omega) hC (fun v hv2 => h7.2.1 t v ht hv2)) (fun r9 h9 => Ok.ret h9))
  rw [if_neg q5]; refine Ok.eqn (by omega) ?_
  by_cases q6 : x2 = 6
  · rw [if_pos q6]
    exact Ok.eqp q6 (Ok.bind (shadesE_ok (by omega) (by omega) (CU_b hS.2) (fun v hv2 => h8.2.2.2.1 v hv2)) (fun r9 h9 => Ok.ret h9))
  rw [if_neg q6]; refine Ok.eqn (by omega) ?_
  by_cases q7 : x2 = 7
  · rw [if_pos q7]
    refine Ok.eqp q7 ?_
    refine Ok.loop (fun m i a => fX12_frame_L156 N s t x2 (fX12_frame_j186 N s t x2) m a (i : Int) 0 r8.1 r7.1 r7.2.1 r7.2.2 r8.2.1 r8.2.2.1 r8.2.2.2.1 r8.2.2.2.2.1 r8.2.2.2.2.2) (W * H) (fun i a => a = sI (fun p => EV d cu sk se we W H F (64 * t + p)) i) _ ?_ ?_ N 0 0 (by omega) (by omega) rfl
    · intro m i a hi hI ih
      show Ok (fX12_frame_b156 N s t x2 _ _ a (i : Int) 0 r8.1 r7.1 r7.2.1 r7.2.2 r8.2.1 r8.2.2.1 r8.2.2.2.1 r8.2.2.2.2.1 r8.2.2.2.2.2) _
      unfold fX12_frame_b156
      refine Ok.bind (mdots_ok hs) (fun r5 h5 => ?_)
      rw [h5, show (64 * (t : Int) + (i : Int)).toNat = 64 * t + i by omega]
      refine Ok.ltp (by omega) (Ok.gd (by omega) (ih _ ?_))
      rw [sI_succ, hI, h8.2.2.2.2 i hi]
    · intro m a hI
      show Ok (fX12_frame_b156 N s t x2 _ _ a ((W * H : Nat) : Int) 0 r8.1 r7.1 r7.2.1 r7.2.2 r8.2.1 r8.2.2.1 r8.2.2.2.1 r8.2.2.2.2.1 r8.2.2.2.2.2) _
      unfold fX12_frame_b156 fX12_frame_j186
      refine Ok.bind (mdots_ok hs) (fun r5 h5 => ?_)
      rw [h5]
      exact Ok.ltn (by omega) (Ok.ret hI)
  rw [if_neg q7]; refine Ok.eqn (by omega) ?_
  refine Ok.bind (changedE_ok hs hv ht (fun p hp => h8.2.2.2.2 p hp) (by omega)) (fun r9 h9 => Ok.ret h9)
theorem frame_j {N : Nat} {d cu sk se we : Nat → Int} {W H F : Nat} {lk en many sz : Int} {c so fo su tg tb dt ac ar no og tc : Nat → Int} {th wm : Int} {me mc be mt mb mo ec ev : Nat → Int} {s : Nat → Int} {x1 x2 : Int} (hs : SR s d cu sk se we W H F) (hv : FV d cu sk se we W H F) (hN : 400 < N) (hl : LkI d cu sk se we W H F lk c many so fo) (he : EnI d cu sk se we W H F en tg tb dt tc) (hx1 : -2147483648 ≤ x1 ∧ x1 < 2147483648) (hx2 : -2147483648 ≤ x2 ∧ x2 < 2147483648) : Ok (fX11_frame N W H F d cu se sk we lk en c many so fo su tg tb dt sz ac ar no og tc x1 x2) (fun r => EvT d cu sk se we W H F r.2 ∧ Ok (fX12_frame N s th wm me mc be mt mb mo ec ev x1 x2) (fun q => r.1 = q.1)) := by
  have hF := hv.2.2.1
  by_cases f1 : 0 ≤ x1 ∧ x1 < F
  · by_cases f3 : 0 ≤ x2 ∧ x2 ≤ 8
    · obtain ⟨t, rfl⟩ : ∃ t : Nat, x1 = (t : Int) := ⟨x1.toNat, by omega⟩
      exact Ok.mono (cframe_ok hv hN hl he (by omega) f3) (fun r hr => ⟨hr.2, Ok.mono (mframe_ok hs hv hN (by omega) f3) (fun q hq => by rw [hr.1, hq])⟩)
    · unfold fX11_frame
      refine Ok.bind (hasFrame_t hF f1) (fun r1 h1 => Ok.eqn (by omega) (Ok.eqn (by omega) (Ok.eqn (by omega) (Ok.eqn (by omega) (Ok.eqn (by omega) (Ok.eqn (by omega) (Ok.eqn (by omega) (Ok.eqn (by omega) (Ok.eqn (by omega) (Ok.eqn (by omega) (Ok.ret ⟨⟨hl, he⟩, ?_⟩)))))))))))
      unfold fX12_frame
      exact Ok.bind (isFrame_t hs.2.2.1 hF f1) (fun r1 h1 => Ok.eqn (by omega) (Ok.bind (isIn_f (by omega) f3) (fun r3 h3 => Ok.eqp h3 (Ok.ret rfl))))
  · unfold fX11_frame
    refine Ok.bind (hasFrame_f hF hx1 f1) (fun r1 h1 => Ok.eqp h1 (Ok.ret ⟨⟨hl, he⟩, ?_⟩))
    unfold fX12_frame
    exact Ok.bind (isFrame_f hs.2.2.1 hF hx1 f1) (fun r1 h1 => Ok.eqp h1 (Ok.ret rfl))
end PF
