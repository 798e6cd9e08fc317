/-! Films copied; acts kept. -/
section PK
def FQ (d cu sk se we d' cu' sk' se' we' : Nat → Int) (W H F : Nat) : Prop := (∀ t p, t < F → p < W * H → d (64 * t + p) = d' (64 * t + p)) ∧ (∀ t, t < 24 → cu t = cu' t) ∧ (∀ t, t < 24 → sk t = sk' t) ∧ (∀ k, k < 6 → se k = se' k) ∧ (∀ k, k < 4 → we k = we' k)
theorem FV.eq {d cu sk se we : Nat → Int} {W H F : Nat} {d' cu' sk' se' we' : Nat → Int} (hv : FV d cu sk se we W H F) (h : FQ d cu sk se we d' cu' sk' se' we' W H F) : FV d' cu' sk' se' we' W H F := by
  obtain ⟨h1, h2, h3, h4, h5⟩ := h
  obtain ⟨v1, v2, v3, v4, v5, v6, v7, v8, v9, v10⟩ := hv
  refine ⟨v1, v2, v3, fun t p ht hp => by rw [← h1 t p ht hp]; exact v4 t p ht hp, fun t ht => by rw [← h2 t ht]; exact v5 t ht, fun t ht => by rw [← h3 t ht]; exact v6 t ht, fun t h8 ht => by rw [← h2 t ht, ← h3 t ht]; exact v7 t h8 ht, fun k hk => by rw [← h4 k hk]; exact v8 k hk, by rw [← h4 1 (by omega), ← h4 2 (by omega)]; exact v9, fun k hk => by rw [← h5 k hk]; exact v10 k hk⟩
theorem BitsR.eq {m : Int} {c c' : Nat → Int} (h : BitsR m c) (hc : ∀ t, t < 24 → c t = c' t) : BitsR m c' := by
  obtain ⟨M, h1, h2, h3⟩ := h
  exact ⟨M, h1, h2, fun t ht => by rw [← hc t ht]; exact h3 t ht⟩
theorem SR.eq {d cu sk se we : Nat → Int} {W H F : Nat} {s d' cu' sk' se' we' : Nat → Int} (hs : SR s d cu sk se we W H F) (h : FQ d cu sk se we d' cu' sk' se' we' W H F) : SR s d' cu' sk' se' we' W H F := by
  obtain ⟨h1, h2, h3, h4, h5⟩ := h
  obtain ⟨s1, s2, s3, s4, s5, s6, s7, s8⟩ := hs
  exact ⟨s1, s2, s3, fun k hk => by rw [← h4 k hk]; exact s4 k hk, fun k hk => by rw [← h5 k hk]; exact s5 k hk, s6.eq h2, s7.eq h3, fun t p ht hp => by rw [← h1 t p ht hp]; exact s8 t p ht hp⟩
theorem SR.row {d cu sk se we : Nat → Int} {W H F : Nat} {s s' : Nat → Int} (hs : SR s d cu sk se we W H F) (hF : F ≤ 24) (hS : W * H ≤ 64) (h : ∀ k, k < 1551 → s' k = s k) : SR s' d cu sk se we W H F := by
  obtain ⟨s1, s2, s3, s4, s5, s6, s7, s8⟩ := hs
  exact ⟨by rw [h 0 (by omega)]; exact s1, by rw [h 1 (by omega)]; exact s2, by rw [h 2 (by omega)]; exact s3, fun k hk => by rw [h _ (by omega)]; exact s4 k hk, fun k hk => by rw [h _ (by omega)]; exact s5 k hk, by rw [h 13 (by omega)]; exact s6, by rw [h 14 (by omega)]; exact s7, fun t p ht hp => by rw [h _ (by omega)]; exact s8 t p ht hp⟩
theorem cpZ_0 {f g : Nat → Int} {n k : Nat} (h : k < n) : cpZ f g 0 0 n k = f k := by
  unfold cpZ
  rw [if_pos ⟨by omega, by omega⟩, Nat.sub_zero, Nat.zero_add]
theorem copyDots_ok {N F : Nat} {d d2 : Nat → Int} (hF : F ≤ 24) : Ok (fX2_copyDots N F d d2) (fun g => ∀ j, j < 64 * F → g j = d j) := by
  unfold fX2_copyDots
  refine Ok.gd (by omega) (Ok.ret (fun j hj => ?_))
  rw [(show ((0 : Int)).toNat = 0 from rfl), show ((F : Int) * 64).toNat = 64 * F by omega]
  exact cpZ_0 hj
theorem copy_ok {N W H F : Nat} {d cu sk se we d2 cu2 sk2 se2 we2 : Nat → Int} {w2 h2 f2 : Int} (hF : F ≤ 24) (hS : W * H ≤ 64) : Ok (fX2_copyFrom N W H F d cu sk se we w2 h2 f2 d2 cu2 sk2 se2 we2) (fun r => r.1 = (W : Int) ∧ r.2.1 = (H : Int) ∧ r.2.2.1 = (F : Int) ∧ FQ d cu sk se we r.2.2.2.1 r.2.2.2.2.1 r.2.2.2.2.2.1 r.2.2.2.2.2.2.1 r.2.2.2.2.2.2.2 W H F) := by
  unfold fX2_copyFrom
  refine Ok.bind (copyDots_ok hF) (fun r1 h1 => Ok.gd (by omega) (Ok.gd (by omega) (Ok.gd (by omega) (Ok.gd (by omega) (Ok.ret ⟨rfl, rfl, rfl, fun t p ht hp => ?_, fun t ht => ?_, fun t ht => ?_, fun k hk => ?_, fun k hk => ?_⟩)))))
  · exact (h1 _ (by omega)).symm
  · exact (cpZ_0 (n := 24) ht).symm
  · exact (cpZ_0 (n := 24) ht).symm
  · exact (cpZ_0 (n := 6) hk).symm
  · exact (cpZ_0 (n := 4) hk).symm
/-- a film of the class and a row of the reference -/
def FS (s d cu sk se we : Nat → Int) (w h f : Int) : Prop := ∃ W H F : Nat, w = (W : Int) ∧ h = (H : Int) ∧ f = (F : Int) ∧ FV d cu sk se we W H F ∧ SR s d cu sk se we W H F
theorem FS.row {s s' d cu sk se we : Nat → Int} {w h f : Int} (hs : FS s d cu sk se we w h f) (he : ∀ k, k < 1551 → s' k = s k) : FS s' d cu sk se we w h f := by
  obtain ⟨W, H, F, h1, h2, h3, hv, hr⟩ := hs
  exact ⟨W, H, F, h1, h2, h3, hv, hr.row hv.2.2.1 (size_b hv.1 hv.2.1).2 he⟩
def AcR (A : Nat) (fd fc fk fs fw : Nat → Nat → Int) (fx fy fz acts : Nat → Int) : Prop := ∀ j, j < A → FS (fun k => acts (1551 * j + k)) (fd j) (fc j) (fk j) (fs j) (fw j) (fx j) (fy j) (fz j)
abbrev AcTy : Type := Int × (Nat → Nat → Nat) × (Nat → Nat → Int) × (Nat → Nat → Int) × (Nat → Nat → Int) × (Nat → Nat → Int) × (Nat → Nat → Int) × (Nat → Int) × (Nat → Int) × (Nat → Int)
def KpP (B sh : Nat) (fd fc fk fs fw : Nat → Nat → Int) (fx fy fz : Nat → Int) (d cu sk se we : Nat → Int) (W H F : Nat) (r : AcTy) : Prop := r.1 = (B : Int) + 1 ∧ (∀ j, j < B → r.2.2.1 j = fd (j + sh) ∧ r.2.2.2.1 j = fc (j + sh) ∧ r.2.2.2.2.1 j = fk (j + sh) ∧ r.2.2.2.2.2.1 j = fs (j + sh) ∧ r.2.2.2.2.2.2.1 j = fw (j + sh) ∧ r.2.2.2.2.2.2.2.1 j = fx (j + sh) ∧ r.2.2.2.2.2.2.2.2.1 j = fy (j + sh) ∧ r.2.2.2.2.2.2.2.2.2 j = fz (j + sh)) ∧ (r.2.2.2.2.2.2.2.1 B = (W : Int) ∧ r.2.2.2.2.2.2.2.2.1 B = (H : Int) ∧ r.2.2.2.2.2.2.2.2.2 B = (F : Int) ∧ FQ d cu sk se we (r.2.2.1 B) (r.2.2.2.1 B) (r.2.2.2.2.1 B) (r.2.2.2.2.2.1 B) (r.2.2.2.2.2.2.1 B) W H F)
theorem uF_at {α : Type} (f : Nat → α) (k : Nat) (v : α) : uF f k v k = v := if_pos rfl
theorem uF_ne {α : Type} {f : Nat → α} {k j : Nat} {v : α} (h : j ≠ k) : uF f k v j = f j := if_neg h
theorem Ok.ifp {α : Type} {c : Prop} [Decidable c] {x y : Option α} {P : α → Prop} (h : c) (hx : Ok x P) : Ok (if c then x else y) P := by rw [if_pos h]; exact hx
theorem Ok.ifn {α : Type} {c : Prop} [Decidable c] {x y : Option α} {P : α → Prop} (h : ¬ c) (hy : Ok y P) : Ok (if c then x else y) P := by rw [if_neg h]; exact hy
theorem kp_fin {B sh : Nat} {fa : Nat → Nat → Nat} {fd fc fk fs fw gd gc gk gs gw : Nat → Nat → Int} {fx fy fz gx gy gz : Nat → Int} {d cu sk se we : Nat → Int} {W H F : Nat} {m : Int} {r3 : Int × Int × Int × (Nat → Int) × (Nat → Int) × (Nat → Int) × (Nat → Int) × (Nat → Int)} (hm : m = (B : Int) + 1) (hg : ∀ j, j < B → gd j = fd (j + sh) ∧ gc j = fc (j + sh) ∧ gk j = fk (j + sh) ∧ gs j = fs (j + sh) ∧ gw j = fw (j + sh) ∧ gx j = fx (j + sh) ∧ gy j = fy (j + sh) ∧ gz j = fz (j + sh)) (h3 : r3.1 = (W : Int) ∧ r3.2.1 = (H : Int) ∧ r3.2.2.1 = (F : Int) ∧ FQ d cu sk se we r3.2.2.2.1 r3.2.2.2.2.1 r3.2.2.2.2.2.1 r3.2.2.2.2.2.2.1 r3.2.2.2.2.2.2.2 W H F) : KpP B sh fd fc fk fs fw fx fy fz d cu sk se we W H F (m, fa, uF gd B r3.2.2.2.1, uF gc B r3.2.2.2.2.1, uF gk B r3.2.2.2.2.2.1, uF gs B r3.2.2.2.2.2.2.1, uF gw B r3.2.2.2.2.2.2.2, uF gx B r3.1, uF gy B r3.2.1, uF gz B r3.2.2.1) := by
  refine ⟨hm, fun j hj => ?_, ?_⟩
  · show uF gd B _ j = _ ∧ uF gc B _ j = _ ∧ uF gk B _ j = _ ∧ uF gs B _ j = _ ∧ uF gw B _ j = _ ∧ uF gx B _ j = _ ∧ uF gy B _ j = _ ∧ uF gz B _ j = _
    rw [uF_ne (by omega), uF_ne (by omega), uF_ne (by omega), uF_ne (by omega), uF_ne (by omega), uF_ne (by omega), uF_ne (by omega), uF_ne (by omega)]
    exact hg j hj
  · show uF gx B _ B = _ ∧ uF gy B _ B = _ ∧ uF gz B _ B = _ ∧ FQ d cu sk se we (uF gd B _ B) (uF gc B _ B) (uF gk B _ B) (uF gs B _ B) (uF gw B _ B) W H F
    rw [uF_at, uF_at, uF_at, uF_at, uF_at, uF_at, uF_at, uF_at]
    exact h3
theorem keep_lt {N A : Nat} {fa : Nat → Nat → Nat} {fd fc fk fs fw : Nat → Nat → Int} {fx fy fz : Nat → Int} {d cu sk se we : Nat → Int} {W H F : Nat} (hF : F ≤ 24) (hS : W * H ≤ 64) (hA : A < 8) : Ok (fX0_keep N W H F d cu sk se we A fa fd fc fk fs fw fx fy fz) (fun r => KpP A 0 fd fc fk fs fw fx fy fz d cu sk se we W H F r) := by
  unfold fX0_keep
  refine Ok.eqn (by omega) ?_
  have hg : ∀ j, j < A → fd j = fd (j + 0) ∧ fc j = fc (j + 0) ∧ fk j = fk (j + 0) ∧ fs j = fs (j + 0) ∧ fw j = fw (j + 0) ∧ fx j = fx (j + 0) ∧ fy j = fy (j + 0) ∧ fz j = fz (j + 0) := fun j _ => ⟨rfl, rfl, rfl, rfl, rfl, rfl, rfl, rfl⟩
  have h8 : A = 0 ∨ A = 1 ∨ A = 2 ∨ A = 3 ∨ A = 4 ∨ A = 5 ∨ A = 6 ∨ A = 7 := by omega
  rcases h8 with rfl | rfl | rfl | rfl | rfl | rfl | rfl | rfl
  · exact Ok.ifp (by omega) (Ok.bind (copy_ok hF hS) (fun r3 h3 => Ok.ret (kp_fin (B := 0) rfl hg h3)))
  · exact Ok.ifn (by omega) (Ok.ifp (by omega) (Ok.bind (copy_ok hF hS) (fun r3 h3 => Ok.ret (kp_fin (B := 1) rfl hg h3))))
  · exact Ok.ifn (by omega) (Ok.ifn (by omega) (Ok.ifp (by omega) (Ok.bind (copy_ok hF hS) (fun r3 h3 => Ok.ret (kp_fin (B := 2) rfl hg h3)))))
  · exact Ok.ifn (by omega) (Ok.ifn (by omega) (Ok.ifn (by omega) (Ok.ifp (by omega) (Ok.bind (copy_ok hF hS) (fun r3 h3 => Ok.ret (kp_fin (B := 3) rfl hg h3))))))
  · exact Ok.ifn (by omega) (Ok.ifn (by omega) (Ok.ifn (by omega) (Ok.ifn (by omega) (Ok.ifp (by omega) (Ok.bind (copy_ok hF hS) (fun r3 h3 => Ok.ret (kp_fin (B := 4) rfl hg h3)))))))
  · exact Ok.ifn (by omega) (Ok.ifn (by omega) (Ok.ifn (by omega) (Ok.ifn (by omega) (Ok.ifn (by omega) (Ok.ifp (by omega) (Ok.bind (copy_ok hF hS) (fun r3 h3 => Ok.ret (kp_fin (B := 5) rfl hg h3))))))))
  · exact Ok.ifn (by omega) (Ok.ifn (by omega) (Ok.ifn (by omega) (Ok.ifn (by omega) (Ok.ifn (by omega) (Ok.ifn (by omega) (Ok.ifp (by omega) (Ok.bind (copy_ok hF hS) (fun r3 h3 => Ok.ret (kp_fin (B := 6) rfl hg h3)))))))))
  · exact Ok.ifn (by omega) (Ok.ifn (by omega) (Ok.ifn (by omega) (Ok.ifn (by omega) (Ok.ifn (by omega) (Ok.ifn (by omega) (Ok.ifn (by omega) (Ok.ifp (by omega) (Ok.bind (copy_ok hF hS) (fun r3 h3 => Ok.ret (kp_fin (B := 7) rfl hg h3))))))))))
theorem rF_lt {α : Type} {f : Nat → α} {j : Nat} (h : j < 7) : rF f j = f (j + 1) := if_pos h
theorem keep_8 {N : Nat} {fa : Nat → Nat → Nat} {fd fc fk fs fw : Nat → Nat → Int} {fx fy fz : Nat → Int} {d cu sk se we : Nat → Int} {W H F : Nat} (hF : F ≤ 24) (hS : W * H ≤ 64) : Ok (fX0_keep N W H F d cu sk se we ((8 : Nat) : Int) fa fd fc fk fs fw fx fy fz) (fun r => KpP 7 1 fd fc fk fs fw fx fy fz d cu sk se we W H F r) := by
  unfold fX0_keep
  refine Ok.eqp rfl ?_
  refine Ok.bind (P := fun r => r = (((8 : Nat) : Int) - 1, rF fa, rF fd, rF fc, rF fk, rF fs, rF fw, rF fx, rF fy, rF fz)) (Ok.ret rfl) (fun r18 h18 => ?_)
  subst h18
  have hg : ∀ j, j < 7 → rF fd j = fd (j + 1) ∧ rF fc j = fc (j + 1) ∧ rF fk j = fk (j + 1) ∧ rF fs j = fs (j + 1) ∧ rF fw j = fw (j + 1) ∧ rF fx j = fx (j + 1) ∧ rF fy j = fy (j + 1) ∧ rF fz j = fz (j + 1) := fun j hj => ⟨rF_lt hj, rF_lt hj, rF_lt hj, rF_lt hj, rF_lt hj, rF_lt hj, rF_lt hj, rF_lt hj⟩
  have e7 : ((8 : Nat) : Int) - 1 = 7 := by omega
  exact Ok.ifn (fun z => absurd (e7.symm.trans z) (by decide)) (Ok.ifn (fun z => absurd (e7.symm.trans z) (by decide)) (Ok.ifn (fun z => absurd (e7.symm.trans z) (by decide)) (Ok.ifn (fun z => absurd (e7.symm.trans z) (by decide)) (Ok.ifn (fun z => absurd (e7.symm.trans z) (by decide)) (Ok.ifn (fun z => absurd (e7.symm.trans z) (by decide)) (Ok.ifn (fun z => absurd (e7.symm.trans z) (by decide)) (Ok.ifp e7 (Ok.bind (copy_ok hF hS) (fun r3 h3 => Ok.ret (kp_fin (B := 7) (by omega) hg h3))))))))))
def RmP (B sh : Nat) (acts s : Nat → Int) (q : Int × (Nat → Int)) : Prop := q.1 = (B : Int) + 1 ∧ (∀ j k, j < B → k < 1551 → q.2 (1551 * j + k) = acts (1551 * (j + sh) + k)) ∧ ∀ k, k < 1551 → q.2 (1551 * B + k) = s k
theorem rem_in {N B sh : Nat} {s g acts : Nat → Int} (hN : 12000 < N) (hB : B ≤ 7) (h0 : ∀ j k, j < B → k < 1551 → g (1551 * j + k) = acts (1551 * (j + sh) + k)) : Ok (fX12_remembers_L52 N s (fX12_remembers_j86 N s) N 0 (B : Int) g) (fun q => RmP B sh acts s q) := by
  refine Ok.loop (fun m i a => fX12_remembers_L52 N s (fX12_remembers_j86 N s) m (i : Int) (B : Int) a) 1551 (fun i a => (∀ k, k < 1551 * B → a k = g k) ∧ ∀ k, k < i → a (1551 * B + k) = s k) _ ?_ ?_ N 0 g (by omega) (by omega) ⟨fun k _ => rfl, fun k hk => by omega⟩
  · intro m i a hi hI ih
    show Ok (fX12_remembers_b52 N s _ _ (i : Int) (B : Int) a) _
    unfold fX12_remembers_b52
    rw [Int.toNat_natCast, show (1551 * (B : Int) + (i : Int)).toNat = 1551 * B + i by omega]
    repeat (first | refine Ok.gd (by omega) ?_ | refine Ok.ltp (by omega) ?_ | refine Ok.ltn (by omega) ?_ | refine Ok.eqp (by omega) ?_ | refine Ok.eqn (by omega) ?_)
    refine ih _ ⟨fun k hk => ?_, fun k hk => ?_⟩
    · rw [uZ_ne (by omega)]; exact hI.1 k hk
    · by_cases q : k = i
      · rw [q, uZ_at]
      · rw [uZ_ne (by omega)]; exact hI.2 k (by omega)
  · intro m a hI
    show Ok (fX12_remembers_b52 N s _ _ ((1551 : Nat) : Int) (B : Int) a) _
    unfold fX12_remembers_b52 fX12_remembers_j86
    refine Ok.ltn (by omega) (Ok.ret ⟨rfl, fun j k hj hk => ?_, fun k hk => hI.2 k hk⟩)
    have hm := Nat.mul_le_mul_left 1551 (show j + 1 ≤ B from hj)
    show a (1551 * j + k) = _
    rw [hI.1 _ (by omega)]; exact h0 j k hj hk
theorem rem_lt {N A : Nat} {s acts : Nat → Int} (hN : 12000 < N) (hA : A < 8) : Ok (fX12_remembers N s A acts) (fun q => RmP A 0 acts s q) := by
  unfold fX12_remembers
  exact Ok.eqn (by omega) (rem_in hN (by omega) (fun j k _ _ => rfl))
theorem rem_8 {N : Nat} {s acts : Nat → Int} (hN : 12000 < N) : Ok (fX12_remembers N s ((8 : Nat) : Int) acts) (fun q => RmP 7 1 acts s q) := by
  unfold fX12_remembers
  refine Ok.eqp rfl ?_
  refine Ok.loop (fun m i a => fX12_remembers_L11 N s (fX12_remembers_j40 N s) m (i : Int) ((8 : Nat) : Int) a) 10857 (fun i a => (∀ k, k < i → a k = acts (k + 1551)) ∧ ∀ k, i ≤ k → a k = acts k) _ ?_ ?_ N 0 acts (by omega) (by omega) ⟨fun k hk => by omega, fun k _ => rfl⟩
  · intro m i a hi hI ih
    show Ok (fX12_remembers_b11 N s _ _ (i : Int) ((8 : Nat) : Int) a) _
    unfold fX12_remembers_b11
    rw [Int.toNat_natCast, show ((i : Int) + 1551).toNat = i + 1551 by omega]
    repeat (first | refine Ok.gd (by omega) ?_ | refine Ok.ltp (by omega) ?_ | refine Ok.ltn (by omega) ?_ | refine Ok.eqp (by omega) ?_ | refine Ok.eqn (by omega) ?_)
    refine ih _ ⟨fun k hk => ?_, fun k hk => ?_⟩
    · by_cases q : k = i
      · rw [q, uZ_at]; exact hI.2 _ (by omega)
      · rw [uZ_ne q]; exact hI.1 k (by omega)
    · rw [uZ_ne (by omega)]; exact hI.2 k (by omega)
  · intro m a hI
    show Ok (fX12_remembers_b11 N s _ _ ((10857 : Nat) : Int) ((8 : Nat) : Int) a) _
    unfold fX12_remembers_b11 fX12_remembers_j40
    refine Ok.ltn (by omega) ?_
    rw [show ((8 : Nat) : Int) - 1 = ((7 : Nat) : Int) by omega]
    refine rem_in hN (by omega) (fun j k hj hk => ?_)
    rw [hI.1 _ (by omega), show 1551 * j + k + 1551 = 1551 * (j + 1) + k by omega]
/-- the acts kept on both sides -/
theorem ac_next {B sh A : Nat} {fd fc fk fs fw : Nat → Nat → Int} {fx fy fz acts s : Nat → Int} {d cu sk se we : Nat → Int} {W H F : Nat} {r : AcTy} {q : Int × (Nat → Int)} (hA : B + sh = A) (ha : AcR A fd fc fk fs fw fx fy fz acts) (hv : FV d cu sk se we W H F) (hs : SR s d cu sk se we W H F) (hr : KpP B sh fd fc fk fs fw fx fy fz d cu sk se we W H F r) (hq : RmP B sh acts s q) : AcR (B + 1) r.2.2.1 r.2.2.2.1 r.2.2.2.2.1 r.2.2.2.2.2.1 r.2.2.2.2.2.2.1 r.2.2.2.2.2.2.2.1 r.2.2.2.2.2.2.2.2.1 r.2.2.2.2.2.2.2.2.2 q.2 := by
  obtain ⟨r1, r2, r3, r4, r5, r6⟩ := hr
  obtain ⟨q1, q2, q3⟩ := hq
  intro j hj
  by_cases z : j = B
  · rw [z]
    exact ⟨W, H, F, r3, r4, r5, hv.eq r6, (hs.row hv.2.2.1 (size_b hv.1 hv.2.1).2 q3).eq r6⟩
  · obtain ⟨e1, e2, e3, e4, e5, e6, e7, e8⟩ := r2 j (by omega)
    rw [e1, e2, e3, e4, e5, e6, e7, e8]
    exact (ha (j + sh) (by omega)).row (fun k hk => q2 j k (by omega) hk)
def AcJ (fd fc fk fs fw : Nat → Nat → Int) (fx fy fz acts : Nat → Int) (am ym : Int) : Prop := ∃ A : Nat, A ≤ 8 ∧ am = (A : Int) ∧ ym = (A : Int) ∧ AcR A fd fc fk fs fw fx fy fz acts
theorem keep_j {N : Nat} {fa : Nat → Nat → Nat} {fd fc fk fs fw : Nat → Nat → Int} {fx fy fz acts s : Nat → Int} {d cu sk se we : Nat → Int} {W H F : Nat} {am ym : Int} (hN : 12000 < N) (hv : FV d cu sk se we W H F) (hs : SR s d cu sk se we W H F) (ha : AcJ fd fc fk fs fw fx fy fz acts am ym) : Ok (fX0_keep N W H F d cu sk se we am fa fd fc fk fs fw fx fy fz) (fun r => Ok (fX12_remembers N s ym acts) (fun q => AcJ r.2.2.1 r.2.2.2.1 r.2.2.2.2.1 r.2.2.2.2.2.1 r.2.2.2.2.2.2.1 r.2.2.2.2.2.2.2.1 r.2.2.2.2.2.2.2.2.1 r.2.2.2.2.2.2.2.2.2 q.2 r.1 q.1)) := by
  obtain ⟨A, hA, rfl, rfl, hR⟩ := ha
  have hS := size_b hv.1 hv.2.1
  by_cases z : A = 8
  · subst z
    refine Ok.mono (keep_8 hv.2.2.1 hS.2) (fun r hr => Ok.mono (rem_8 hN) (fun q hq => ?_))
    exact ⟨8, by omega, by rw [hr.1]; rfl, by rw [hq.1]; rfl, ac_next (B := 7) (sh := 1) rfl hR hv hs hr hq⟩
  · refine Ok.mono (keep_lt hv.2.2.1 hS.2 (by omega)) (fun r hr => Ok.mono (rem_lt hN (by omega)) (fun q hq => ?_))
    exact ⟨A + 1, by omega, by rw [hr.1]; rfl, by rw [hq.1]; rfl, ac_next (B := A) (sh := 0) rfl hR hv hs hr hq⟩
/-- back: what was kept last -/
theorem back_ok {N A : Nat} {fd fc fk fs fw : Nat → Nat → Int} {fx fy fz : Nat → Int} {w h f : Int} {d cu sk se we : Nat → Int} {Wj Hj Fj : Nat} (hA : A < 8) (hx : fx A = (Wj : Int)) (hy : fy A = (Hj : Int)) (hz : fz A = (Fj : Int)) (hF : Fj ≤ 24) (hS : Wj * Hj ≤ 64) : Ok (fX0_bringBack N fd fc fk fs fw fx fy fz ((A + 1 : Nat) : Int) w h f d cu sk se we) (fun r => r.1 = (A : Int) ∧ r.2.1 = (Wj : Int) ∧ r.2.2.1 = (Hj : Int) ∧ r.2.2.2.1 = (Fj : Int) ∧ FQ (fd A) (fc A) (fk A) (fs A) (fw A) r.2.2.2.2.1 r.2.2.2.2.2.1 r.2.2.2.2.2.2.1 r.2.2.2.2.2.2.2.1 r.2.2.2.2.2.2.2.2 Wj Hj Fj) := by
  unfold fX0_bringBack
  refine Ok.ltp (by omega) ?_
  have e1 : ((A + 1 : Nat) : Int) - 1 = (A : Int) := by omega
  rw [e1]
  have h8 : A = 0 ∨ A = 1 ∨ A = 2 ∨ A = 3 ∨ A = 4 ∨ A = 5 ∨ A = 6 ∨ A = 7 := by omega
  rcases h8 with rfl | rfl | rfl | rfl | rfl | rfl | rfl | rfl
  · rw [hx, hy, hz]; exact Ok.ifp (by omega) (Ok.bind (copy_ok hF hS) (fun r3 h3 => Ok.ret ⟨rfl, h3⟩))
  · rw [hx, hy, hz]; exact Ok.ifn (by omega) (Ok.ifp (by omega) (Ok.bind (copy_ok hF hS) (fun r3 h3 => Ok.ret ⟨rfl, h3⟩)))
  · rw [hx, hy, hz]; exact Ok.ifn (by omega) (Ok.ifn (by omega) (Ok.ifp (by omega) (Ok.bind (copy_ok hF hS) (fun r3 h3 => Ok.ret ⟨rfl, h3⟩))))
  · rw [hx, hy, hz]; exact Ok.ifn (by omega) (Ok.ifn (by omega) (Ok.ifn (by omega) (Ok.ifp (by omega) (Ok.bind (copy_ok hF hS) (fun r3 h3 => Ok.ret ⟨rfl, h3⟩)))))
  · rw [hx, hy, hz]; exact Ok.ifn (by omega) (Ok.ifn (by omega) (Ok.ifn (by omega) (Ok.ifn (by omega) (Ok.ifp (by omega) (Ok.bind (copy_ok hF hS) (fun r3 h3 => Ok.ret ⟨rfl, h3⟩))))))
  · rw [hx, hy, hz]; exact Ok.ifn (by omega) (Ok.ifn (by omega) (Ok.ifn (by omega) (Ok.ifn (by omega) (Ok.ifn (by omega) (Ok.ifp (by omega) (Ok.bind (copy_ok hF hS) (fun r3 h3 => Ok.ret ⟨rfl, h3⟩)))))))
  · rw [hx, hy, hz]; exact Ok.ifn (by omega) (Ok.ifn (by omega) (Ok.ifn (by omega) (Ok.ifn (by omega) (Ok.ifn (by omega) (Ok.ifn (by omega) (Ok.ifp (by omega) (Ok.bind (copy_ok hF hS) (fun r3 h3 => Ok.ret ⟨rfl, h3⟩))))))))
  · rw [hx, hy, hz]; exact Ok.ifn (by omega) (Ok.ifn (by omega) (Ok.ifn (by omega) (Ok.ifn (by omega) (Ok.ifn (by omega) (Ok.ifn (by omega) (Ok.ifn (by omega) (Ok.ifp (by omega) (Ok.bind (copy_ok hF hS) (fun r3 h3 => Ok.ret ⟨rfl, h3⟩)))))))))
theorem mback_ok {N A : Nat} {s acts : Nat → Int} {th : Int} (hN : 12000 < N) (hA : A < 8) : Ok (fX12_undo_L27 N acts (fX12_undo_j61 N acts) N 0 (A : Int) th s) (fun q => q.1 = (A : Int) ∧ q.2.1 = (A : Int) ∧ ∀ k, k < 1551 → q.2.2.2 k = acts (1551 * A + k)) := by
  refine Ok.loop (fun m i a => fX12_undo_L27 N acts (fX12_undo_j61 N acts) m (i : Int) (A : Int) th a) 1551 (fun i a => ∀ k, k < i → a k = acts (1551 * A + k)) _ ?_ ?_ N 0 s (by omega) (by omega) (fun k hk => by omega)
  · intro m i a hi hI ih
    show Ok (fX12_undo_b27 N acts _ _ (i : Int) (A : Int) th a) _
    unfold fX12_undo_b27
    rw [Int.toNat_natCast, show (1551 * (A : Int) + (i : Int)).toNat = 1551 * A + i by omega]
    repeat (first | refine Ok.gd (by omega) ?_ | refine Ok.ltp (by omega) ?_ | refine Ok.ltn (by omega) ?_ | refine Ok.eqp (by omega) ?_ | refine Ok.eqn (by omega) ?_)
    refine ih _ (fun k hk => ?_)
    by_cases q : k = i
    · rw [q, uZ_at]
    · rw [uZ_ne q]; exact hI k (by omega)
  · intro m a hI
    show Ok (fX12_undo_b27 N acts _ _ ((1551 : Nat) : Int) (A : Int) th a) _
    unfold fX12_undo_b27 fX12_undo_j61
    exact Ok.ltn (by omega) (Ok.ret ⟨rfl, rfl, hI⟩)
end PK
