/-! The move: most alike, then shortest, then first. -/
section PV
def kmS (c : Int → Int → Int) (u v : Int) : Int := c u v * 1024 - (ab u + ab v) * 32 - (5 * (u + 2) + (v + 2))
def rgP (u v : Int) : Prop := (-2 ≤ u ∧ u ≤ 2) ∧ -2 ≤ v ∧ v ≤ 2
theorem ab_r {u : Int} (h : -2 ≤ u ∧ u ≤ 2) : 0 ≤ ab u ∧ ab u ≤ 2 := ⟨ab_nn u, ab_le (by omega)⟩
def BsP (c : Int → Int → Int) (pr : Int → Int → Prop) (r dn dt : Int) : Prop := rgP r dn ∧ dt = c r dn ∧ pr r dn ∧ ∀ u v, rgP u v → pr u v → kmS c u v ≤ kmS c r dn
theorem Bs_uniq {c : Int → Int → Int} {r dn dt r' dn' dt' : Int} (h : BsP c (fun _ _ => True) r dn dt) (h' : BsP c (fun _ _ => True) r' dn' dt') : r = r' ∧ dn = dn' ∧ dt = dt' := by
  obtain ⟨⟨h1, h2⟩, h3, -, h4⟩ := h
  obtain ⟨⟨g1, g2⟩, g3, -, g4⟩ := h'
  have e1 := h4 r' dn' ⟨g1, g2⟩ trivial
  have e2 := g4 r dn ⟨h1, h2⟩ trivial
  unfold kmS at e1 e2
  have a1 := ab_r h1
  have a2 := ab_r h2
  have a3 := ab_r g1
  have a4 := ab_r g2
  have s1 : c r dn = c r' dn' := by
    rcases Int.lt_trichotomy (c r dn) (c r' dn') with z | z | z
    · exfalso; omega
    · exact z
    · exfalso; omega
  rw [s1] at e1 e2
  have s2 : ab r + ab dn = ab r' + ab dn' := by
    rcases Int.lt_trichotomy (ab r + ab dn) (ab r' + ab dn') with z | z | z
    · exfalso; omega
    · exact z
    · exfalso; omega
  have s3 : 5 * r + dn = 5 * r' + dn' := by omega
  have s4 : r = r' := by
    rcases Int.lt_trichotomy r r' with z | z | z
    · exfalso; omega
    · exact z
    · exfalso; omega
  exact ⟨s4, by omega, by rw [h3, g3, s1]⟩
theorem mwork_ok {N t F : Nat} {d : Nat → Int} {W H : Nat} {r0 n0 t0 : Int} (hW : 1 ≤ W ∧ W ≤ 8) (hH : 1 ≤ H ∧ H ≤ 8) (hF : F ≤ 24) (hd : DB d (W * H) F) (ht : t + 1 < F) (hN : 400 < N) : Ok (fX4_work N W H d r0 n0 t0 t) (fun q => BsP (lcS d W H t) (fun _ _ => True) q.1 q.2.1 q.2.2) := by
  have hS := size_b hW hH
  have hcb : ∀ x y, 0 ≤ lcS d W H t x y ∧ lcS d W H t x y ≤ 64 := fun x y => lcS_b hS.2
  unfold fX4_work
  rw [show (-2 : Int) = ((0 : Nat) : Int) - 2 by omega]
  refine Ok.loop (fun m i (a : Int × Int × Int) => fX4_work_L8 N W H d t (fX4_work_j90 N W H d t) m ((i : Int) - 2) a.1 a.2.1 a.2.2) 5 (fun i a => (i = 0 ∧ a.2.2 = -1) ∨ (0 < i ∧ BsP (lcS d W H t) (fun u _ => u < (i : Int) - 2) a.1 a.2.1 a.2.2)) _ ?_ ?_ N 0 (r0, n0, -1) (by omega) (by omega) (Or.inl ⟨rfl, rfl⟩)
  · intro m i a hi hI ih
    show Ok (fX4_work_b8 N W H d t _ _ ((i : Int) - 2) a.1 a.2.1 a.2.2) _
    unfold fX4_work_b8
    obtain ⟨x, hxe⟩ : ∃ x : Int, x = (i : Int) - 2 := ⟨_, rfl⟩
    have hx : -2 ≤ x ∧ x ≤ 2 := by omega
    rw [← hxe] at hI ⊢
    have axx := ab_r hx
    rw [show (-2 : Int) = ((0 : Nat) : Int) - 2 by omega]
    refine Ok.ltn (by omega) ?_
    refine Ok.loop (fun q j (b : Int × Int × Int) => fX4_work_L17 N W H d t (fX4_work_j84 N W H d t (fX4_work_L8 N W H d t (fX4_work_j90 N W H d t) m) (fX4_work_j90 N W H d t)) q x ((j : Int) - 2) b.1 b.2.1 b.2.2) 5 (fun j b => (i = 0 ∧ j = 0 ∧ b.2.2 = -1) ∨ BsP (lcS d W H t) (fun u v => u < x ∨ (u = x ∧ v < (j : Int) - 2)) b.1 b.2.1 b.2.2) _ ?_ ?_ N 0 a (by omega) (by omega) ?_
    · intro q j b hj hI2 ih2
      show Ok (fX4_work_b17 N W H d t _ _ x ((j : Int) - 2) b.1 b.2.1 b.2.2) _
      unfold fX4_work_b17
      obtain ⟨y, hye⟩ : ∃ y : Int, y = (j : Int) - 2 := ⟨_, rfl⟩
      have hy : -2 ≤ y ∧ y ≤ 2 := by omega
      rw [← hye] at hI2 ⊢
      have ayy := ab_r hy
      have hcx := hcb x y
      have hj1 : ((j + 1 : Nat) : Int) - 2 = y + 1 := by omega
      rw [hj1] at ih2
      have take : ∀ r3, r3 = lcS d W H t x y → (b.2.2 = -1 ∧ i = 0 ∧ j = 0 ∨ (BsP (lcS d W H t) (fun u v => u < x ∨ (u = x ∧ v < y)) b.1 b.2.1 b.2.2 ∧ kmS (lcS d W H t) b.1 b.2.1 ≤ kmS (lcS d W H t) x y)) → Ok (fX4_work_L17 N W H d t (fX4_work_j84 N W H d t (fX4_work_L8 N W H d t (fX4_work_j90 N W H d t) m) (fX4_work_j90 N W H d t)) q x (y + 1) x y r3) (fun q => BsP (lcS d W H t) (fun _ _ => True) q.1 q.2.1 q.2.2) := by
        intro r3 h3 hb
        refine ih2 (x, y, r3) (Or.inr ⟨⟨hx, hy⟩, h3, Or.inr ⟨rfl, by show y < y + 1; omega⟩, ?_⟩)
        intro u v huv hp
        show kmS (lcS d W H t) u v ≤ kmS (lcS d W H t) x y
        have huv' := huv
        obtain ⟨hu1, hv1⟩ := huv
        by_cases w : u = x ∧ v = y
        · rw [w.1, w.2]; exact Int.le_refl _
        · rcases hb with ⟨-, b2, b3⟩ | ⟨hB, hk⟩
          · exfalso; omega
          · have := hB.2.2.2 u v huv' (by omega)
            omega
      have leave : BsP (lcS d W H t) (fun u v => u < x ∨ (u = x ∧ v < y)) b.1 b.2.1 b.2.2 → kmS (lcS d W H t) x y ≤ kmS (lcS d W H t) b.1 b.2.1 → Ok (fX4_work_L17 N W H d t (fX4_work_j84 N W H d t (fX4_work_L8 N W H d t (fX4_work_j90 N W H d t) m) (fX4_work_j90 N W H d t)) q x (y + 1) b.1 b.2.1 b.2.2) (fun q => BsP (lcS d W H t) (fun _ _ => True) q.1 q.2.1 q.2.2) := by
        intro hB hk
        refine ih2 b (Or.inr ⟨hB.1, hB.2.1, ?_, ?_⟩)
        · have := hB.2.2.1; omega
        · intro u v huv hp
          by_cases w : u = x ∧ v = y
          · rw [w.1, w.2]; exact hk
          · have huv' := huv
            obtain ⟨hu1, hv1⟩ := huv
            exact hB.2.2.2 u v huv' (by omega)
      refine Ok.ltn (by omega) (Ok.bind (cmove_ok hW hH hF hd ht hx hy hN) (fun r3 h3 => ?_))
      rcases hI2 with ⟨z1, z2, z3⟩ | hB
      · exact Ok.ltp (by omega) (take r3 h3 (Or.inl ⟨z3, z1, z2⟩))
      · obtain ⟨⟨p1, p2⟩, p3, p4, p5⟩ := id hB
        have ar := ab_r p1
        have an := ab_r p2
        have hcb2 := hcb b.1 b.2.1
        refine Ok.lt (by omega) (fun z => take r3 h3 (Or.inr ⟨hB, by unfold kmS; omega⟩)) (fun z => Ok.eq (by omega) (fun z2 => ?_) (fun z2 => leave hB (by unfold kmS; omega)))
        unfold fX4_isShorter
        rw [abZ_ab (by omega), abZ_ab (by omega), abZ_ab (by omega), abZ_ab (by omega)]
        refine Ok.bind (P := fun r => (r = 1 ∧ ab x + ab y < ab b.1 + ab b.2.1) ∨ (r = 0 ∧ ¬ (ab x + ab y < ab b.1 + ab b.2.1))) (Ok.lt (by omega) (fun w => Ok.ret (Or.inl ⟨rfl, w⟩)) (fun w => Ok.ret (Or.inr ⟨rfl, by omega⟩))) (fun r6 h6 => ?_)
        rcases h6 with ⟨w1, w2⟩ | ⟨w1, w2⟩
        · exact Ok.eqn (by omega) (take r3 h3 (Or.inr ⟨hB, by unfold kmS; omega⟩))
        · exact Ok.eqp w1 (leave hB (by unfold kmS; omega))
    · intro q b hI2
      show Ok (fX4_work_b17 N W H d t _ _ x (((5 : Nat) : Int) - 2) b.1 b.2.1 b.2.2) _
      unfold fX4_work_b17 fX4_work_j84
      refine Ok.ltp (by omega) ?_
      rw [show x + 1 = ((i + 1 : Nat) : Int) - 2 by omega]
      refine ih b (Or.inr ⟨by omega, ?_⟩)
      rcases hI2 with z | hB
      · exfalso; omega
      · refine ⟨hB.1, hB.2.1, ?_, ?_⟩
        · have h1 := hB.2.2.1
          have h2 := hB.1
          unfold rgP at h2
          show b.1 < ((i + 1 : Nat) : Int) - 2
          omega
        · intro u v huv hp
          have huv' := huv
          obtain ⟨hu1, hv1⟩ := huv
          have hp' : u < ((i + 1 : Nat) : Int) - 2 := hp
          exact hB.2.2.2 u v huv' (by omega)
    · rcases hI with ⟨z1, z2⟩ | ⟨z1, hB⟩
      · exact Or.inl ⟨z1, rfl, z2⟩
      · refine Or.inr ⟨hB.1, hB.2.1, Or.inl hB.2.2.1, ?_⟩
        intro u v huv hp
        have huv' := huv
        obtain ⟨hu1, hv1⟩ := huv
        have hp' : u < x ∨ (u = x ∧ v < ((0 : Nat) : Int) - 2) := hp
        refine hB.2.2.2 u v huv' ?_
        show u < x
        omega
  · intro m a hI
    show Ok (fX4_work_b8 N W H d t _ _ (((5 : Nat) : Int) - 2) a.1 a.2.1 a.2.2) _
    unfold fX4_work_b8 fX4_work_j90
    refine Ok.ltp (by omega) (Ok.ret ?_)
    rcases hI with z | ⟨z1, hB⟩
    · exfalso; omega
    · refine ⟨hB.1, hB.2.1, trivial, ?_⟩
      intro u v huv _
      have huv' := huv
      obtain ⟨hu1, hv1⟩ := huv
      refine hB.2.2.2 u v huv' ?_
      show u < ((5 : Nat) : Int) - 2
      omega
/-! the reference -/
def BmP (c : Int → Int → Int) (pr : Int → Int → Prop) (r dn dt : Int) : Prop := (dt = -1 ∧ ∀ u v, rgP u v → ¬ pr u v) ∨ BsP c pr r dn dt
theorem Bm_pr {c : Int → Int → Int} {pr pr' : Int → Int → Prop} {r dn dt : Int} (h : BmP c pr r dn dt) (hp : ∀ u v, rgP u v → (pr u v ↔ pr' u v)) : BmP c pr' r dn dt := by
  rcases h with ⟨z1, z2⟩ | ⟨h1, h2, h3, h4⟩
  · exact Or.inl ⟨z1, fun u v huv y => z2 u v huv ((hp u v huv).mpr y)⟩
  · exact Or.inr ⟨h1, h2, (hp r dn h1).mp h3, fun u v huv y => h4 u v huv ((hp u v huv).mpr y)⟩
theorem mshift {N t : Nat} {d cu sk se we : Nat → Int} {W H F : Nat} {s : Nat → Int} {x2 th : Int} (hs : SR s d cu sk se we W H F) (hv : FV d cu sk se we W H F) (ht : t + 1 < F) (hx2 : 0 ≤ x2 ∧ x2 ≤ 2) (hN : 400 < N) : Ok (fX12_shift_L53 N s t x2 (fX12_shift_j150 N s t x2) N 0 0 (-1) 0 th) (fun q => ∃ r dn dt, BsP (lcS d W H t) (fun _ _ => True) r dn dt ∧ q.1 = if x2 = 0 then r + 2 else if x2 = 1 then dn + 2 else dt) := by
  have hS := size_b hv.1 hv.2.1
  have hcb : ∀ x y, 0 ≤ lcS d W H t x y ∧ lcS d W H t x y ≤ 64 := fun x y => lcS_b hS.2
  refine Ok.loop (fun m f (a : Int × Int × Int) => fX12_shift_L53 N s t x2 (fX12_shift_j150 N s t x2) m a.1 a.2.1 a.2.2 (f : Int) th) 5 (fun f a => BmP (lcS d W H t) (fun u v => ab u + ab v < (f : Int)) a.1 a.2.1 a.2.2) _ ?_ ?_ N 0 (0, 0, -1) (by omega) (by omega) (Or.inl ⟨rfl, ?_⟩)
  · intro m f a hf hI ih
    show Ok (fX12_shift_b53 N s t x2 _ _ a.1 a.2.1 a.2.2 (f : Int) th) _
    unfold fX12_shift_b53
    refine Ok.ltp (by omega) ?_
    rw [show (-2 : Int) = ((0 : Nat) : Int) - 2 by omega]
    refine Ok.loop (fun q i (b : Int × Int × Int) => fX12_shift_L63 N s t x2 (fX12_shift_j144 N s t x2 (fX12_shift_L53 N s t x2 (fX12_shift_j150 N s t x2) m) (fX12_shift_j150 N s t x2)) q b.1 b.2.1 b.2.2 (f : Int) ((i : Int) - 2) th) 5 (fun i b => BmP (lcS d W H t) (fun u v => ab u + ab v < (f : Int) ∨ (ab u + ab v = (f : Int) ∧ u < (i : Int) - 2)) b.1 b.2.1 b.2.2) _ ?_ ?_ N 0 a (by omega) (by omega) (Bm_pr hI ?_)
    · intro q i b hi hI2 ih2
      show Ok (fX12_shift_b63 N s t x2 _ _ b.1 b.2.1 b.2.2 (f : Int) ((i : Int) - 2) th) _
      unfold fX12_shift_b63
      obtain ⟨x, hxe⟩ : ∃ x : Int, x = (i : Int) - 2 := ⟨_, rfl⟩
      have hx : -2 ≤ x ∧ x ≤ 2 := by omega
      rw [← hxe] at hI2 ⊢
      have axx := ab_r hx
      refine Ok.ltp (by omega) ?_
      rw [show (-2 : Int) = ((0 : Nat) : Int) - 2 by omega]
      refine Ok.loop (fun q2 j (e : Int × Int × Int) => fX12_shift_L73 N s t x2 (fX12_shift_j138 N s t x2 (fX12_shift_L63 N s t x2 (fX12_shift_j144 N s t x2 (fX12_shift_L53 N s t x2 (fX12_shift_j150 N s t x2) m) (fX12_shift_j150 N s t x2)) q) (fX12_shift_j144 N s t x2 (fX12_shift_L53 N s t x2 (fX12_shift_j150 N s t x2) m) (fX12_shift_j150 N s t x2))) q2 e.1 e.2.1 e.2.2 (f : Int) x ((j : Int) - 2) th) 5 (fun j e => BmP (lcS d W H t) (fun u v => ab u + ab v < (f : Int) ∨ (ab u + ab v = (f : Int) ∧ (u < x ∨ (u = x ∧ v < (j : Int) - 2)))) e.1 e.2.1 e.2.2) _ ?_ ?_ N 0 b (by omega) (by omega) (Bm_pr hI2 ?_)
      · intro q2 j e hj hI3 ih3
        show Ok (fX12_shift_b73 N s t x2 _ _ e.1 e.2.1 e.2.2 (f : Int) x ((j : Int) - 2) th) _
        unfold fX12_shift_b73
        obtain ⟨y, hye⟩ : ∃ y : Int, y = (j : Int) - 2 := ⟨_, rfl⟩
        have hy : -2 ≤ y ∧ y ≤ 2 := by omega
        rw [← hye] at hI3 ⊢
        have ayy := ab_r hy
        have hcx := hcb x y
        have hj1 : ((j + 1 : Nat) : Int) - 2 = y + 1 := by omega
        rw [hj1] at ih3
        refine Ok.ltp (by omega) (Ok.bind (off_ok (by omega)) (fun r10 h10 => Ok.bind (off_ok (by omega)) (fun r11 h11 => ?_)))
        rw [Int.sub_zero] at h10 h11
        refine Ok.eq (by omega) (fun z => ?_) (fun z => ih3 e (Bm_pr hI3 ?_))
        · refine Ok.bind (likeBy_ok hs hv ht hx hy hN) (fun r13 h13 => ?_)
          rcases hI3 with ⟨z1, z2⟩ | hB
          · refine Ok.ltp (by omega) (Ok.bind (likeBy_ok hs hv ht hx hy hN) (fun r15 h15 => ih3 (x, y, r15) (Or.inr ⟨⟨hx, hy⟩, h15, ?_, ?_⟩)))
            · show ab x + ab y < (f : Int) ∨ (ab x + ab y = (f : Int) ∧ (x < x ∨ (x = x ∧ y < y + 1)))
              omega
            · intro u v huv hp
              show kmS (lcS d W H t) u v ≤ kmS (lcS d W H t) x y
              by_cases w : u = x ∧ v = y
              · rw [w.1, w.2]; exact Int.le_refl _
              · exfalso
                refine z2 u v huv ?_
                have hp' : ab u + ab v < (f : Int) ∨ (ab u + ab v = (f : Int) ∧ (u < x ∨ (u = x ∧ v < y + 1))) := hp
                show ab u + ab v < (f : Int) ∨ (ab u + ab v = (f : Int) ∧ (u < x ∨ (u = x ∧ v < y)))
                omega
          · obtain ⟨⟨p1, p2⟩, p3, p4, p5⟩ := id hB
            have ar := ab_r p1
            have an := ab_r p2
            have hcb2 := hcb e.1 e.2.1
            have p4' : ab e.1 + ab e.2.1 < (f : Int) ∨ (ab e.1 + ab e.2.1 = (f : Int) ∧ (e.1 < x ∨ (e.1 = x ∧ e.2.1 < y))) := p4
            refine Ok.lt (by omega) (fun w => Ok.bind (likeBy_ok hs hv ht hx hy hN) (fun r15 h15 => ih3 (x, y, r15) (Or.inr ⟨⟨hx, hy⟩, h15, ?_, ?_⟩))) (fun w => ih3 e (Or.inr ⟨⟨p1, p2⟩, p3, ?_, ?_⟩))
            · show ab x + ab y < (f : Int) ∨ (ab x + ab y = (f : Int) ∧ (x < x ∨ (x = x ∧ y < y + 1)))
              omega
            · intro u v huv hp
              show kmS (lcS d W H t) u v ≤ kmS (lcS d W H t) x y
              have hp' : ab u + ab v < (f : Int) ∨ (ab u + ab v = (f : Int) ∧ (u < x ∨ (u = x ∧ v < y + 1))) := hp
              by_cases w2 : u = x ∧ v = y
              · rw [w2.1, w2.2]; exact Int.le_refl _
              · have h1 : kmS (lcS d W H t) u v ≤ kmS (lcS d W H t) e.1 e.2.1 := p5 u v huv (by
                  show ab u + ab v < (f : Int) ∨ (ab u + ab v = (f : Int) ∧ (u < x ∨ (u = x ∧ v < y)))
                  omega)
                have h2 : kmS (lcS d W H t) e.1 e.2.1 ≤ kmS (lcS d W H t) x y := by unfold kmS; omega
                omega
            · show ab e.1 + ab e.2.1 < (f : Int) ∨ (ab e.1 + ab e.2.1 = (f : Int) ∧ (e.1 < x ∨ (e.1 = x ∧ e.2.1 < y + 1)))
              omega
            · intro u v huv hp
              have hp' : ab u + ab v < (f : Int) ∨ (ab u + ab v = (f : Int) ∧ (u < x ∨ (u = x ∧ v < y + 1))) := hp
              by_cases w2 : u = x ∧ v = y
              · rw [w2.1, w2.2]
                unfold kmS
                omega
              · exact p5 u v huv (by
                  show ab u + ab v < (f : Int) ∨ (ab u + ab v = (f : Int) ∧ (u < x ∨ (u = x ∧ v < y)))
                  omega)
        · intro u v huv
          by_cases w : u = x ∧ v = y
          · rw [w.1, w.2]; omega
          · omega
      · intro q2 e hI3
        show Ok (fX12_shift_b73 N s t x2 _ _ e.1 e.2.1 e.2.2 (f : Int) x (((5 : Nat) : Int) - 2) th) _
        unfold fX12_shift_b73 fX12_shift_j138
        refine Ok.ltn (by omega) ?_
        rw [show x + 1 = ((i + 1 : Nat) : Int) - 2 by omega]
        refine ih2 e (Bm_pr hI3 ?_)
        intro u v huv
        obtain ⟨hu1, hv1⟩ := huv
        omega
      · intro u v huv
        obtain ⟨hu1, hv1⟩ := huv
        omega
    · intro q b hI2
      show Ok (fX12_shift_b63 N s t x2 _ _ b.1 b.2.1 b.2.2 (f : Int) (((5 : Nat) : Int) - 2) th) _
      unfold fX12_shift_b63 fX12_shift_j144
      refine Ok.ltn (by omega) ?_
      rw [show (f : Int) + 1 = ((f + 1 : Nat) : Int) by omega]
      refine ih b (Bm_pr hI2 ?_)
      intro u v huv
      obtain ⟨hu1, hv1⟩ := huv
      omega
    · intro u v huv
      obtain ⟨hu1, hv1⟩ := huv
      omega
  · intro m a hI
    show Ok (fX12_shift_b53 N s t x2 _ _ a.1 a.2.1 a.2.2 ((5 : Nat) : Int) th) _
    unfold fX12_shift_b53 fX12_shift_j150
    have hB : BsP (lcS d W H t) (fun _ _ => True) a.1 a.2.1 a.2.2 := by
      rcases hI with ⟨z1, z2⟩ | ⟨h1, h2, h3, h4⟩
      · exfalso
        refine z2 0 0 ⟨⟨by omega, by omega⟩, by omega, by omega⟩ ?_
        show ab 0 + ab 0 < ((5 : Nat) : Int)
        decide
      · refine ⟨h1, h2, trivial, ?_⟩
        intro u v huv _
        have huv' := huv
        obtain ⟨hu1, hv1⟩ := huv
        have q1 := ab_r hu1
        have q2 := ab_r hv1
        refine h4 u v huv' ?_
        show ab u + ab v < ((5 : Nat) : Int)
        omega
    refine Ok.ltn (by omega) (Ok.eq (by omega) (fun z => Ok.ret ⟨a.1, a.2.1, a.2.2, hB, ?_⟩) (fun z => Ok.eq (by omega) (fun z2 => Ok.ret ⟨a.1, a.2.1, a.2.2, hB, ?_⟩) (fun z2 => Ok.ret ⟨a.1, a.2.1, a.2.2, hB, ?_⟩)))
    · rw [if_pos z]
    · rw [if_neg z, if_pos z2]
    · rw [if_neg z, if_neg z2]
  · intro u v huv hp
    have hp' : ab u + ab v < ((0 : Nat) : Int) := hp
    have q1 := ab_nn u
    have q2 := ab_nn v
    omega
theorem shift_j {N : Nat} {d cu sk se we : Nat → Int} {W H F : Nat} {s : Nat → Int} {x1 x2 th r0 n0 t0 : Int} (hs : SR s d cu sk se we W H F) (hv : FV d cu sk se we W H F) (hN : 400 < N) (hx1 : -2147483648 ≤ x1 ∧ x1 < 2147483648) (hx2 : -2147483648 ≤ x2 ∧ x2 < 2147483648) : Ok (fX11_shift N W H F d r0 n0 t0 x1 x2) (fun r => Ok (fX12_shift N s th x1 x2) (fun q => r.1 = q.1)) := by
  have hF := hv.2.2.1
  unfold fX11_shift fX12_shift
  rw [(show ((2 : Int)).toNat = 2 from rfl), hs.2.2.1]
  by_cases f1 : 0 ≤ x1 ∧ x1 < F
  · refine Ok.bind (hasFrame_t hF f1) (fun r1 h1 => Ok.eqn (by omega) ?_)
    obtain ⟨t, rfl⟩ : ∃ t : Nat, x1 = (t : Int) := ⟨x1.toNat, by omega⟩
    by_cases f2 : 0 ≤ x2 ∧ x2 ≤ 2
    · refine Ok.ltn (by omega) (Ok.ltn (by omega) ?_)
      refine Ok.lt (by omega) (fun z => ?_) (fun z => Ok.ret (Ok.bind (isFrame_t hs.2.2.1 hF f1) (fun a1 b1 => Ok.eqn (by omega) (Ok.bind (isIn_t (by omega) f2) (fun a3 b3 => Ok.eqn (by omega) (Ok.gd (by omega) (Ok.eqp (by omega) (Ok.ret rfl))))))))
      refine Ok.bind (mwork_ok hv.1 hv.2.1 hF hv.2.2.2.1 (by omega) hN) (fun r6 h6 => ?_)
      have M : ∀ a : Int, (a = if x2 = 0 then r6.1 + 2 else if x2 = 1 then r6.2.1 + 2 else r6.2.2) → Ok ((fX12_isFrame N s (t : Int)).bind fun r1 => (if iZ r1 = iZ 0 then (some (((-2 : Int), (0 : Int)))) else ((fX12_isIn N x2 0 2).bind fun r3 => (if iZ r3 = iZ 0 then (some (((-2), 0))) else (gd ((0 : Int) ≤ (2 : Int) ∧ (2 : Int) < 1551) (if iZ ((t : Int) + 1) = iZ (F : Int) then (some (((-1), 0))) else (fX12_shift_L53 N s (t : Int) x2 (fX12_shift_j150 N s (t : Int) x2) N 0 0 ((-1)) 0 0))))))) (fun q => a = q.1) := by
        intro a ha
        refine Ok.bind (isFrame_t hs.2.2.1 hF f1) (fun a1 b1 => Ok.eqn (by omega) (Ok.bind (isIn_t (by omega) f2) (fun a3 b3 => Ok.eqn (by omega) (Ok.gd (by omega) (Ok.eqn (by omega) ?_)))))
        refine Ok.mono (mshift hs hv (by omega) f2 hN) (fun q hq => ?_)
        obtain ⟨r, dn, dt, hB, he⟩ := hq
        obtain ⟨e1, e2, e3⟩ := Bs_uniq h6 hB
        rw [ha, he, e1, e2, e3]
      refine Ok.eq (by omega) (fun q => Ok.ret (M _ ?_)) (fun q => Ok.eq (by omega) (fun q2 => Ok.ret (M _ ?_)) (fun q2 => Ok.ret (M _ ?_)))
      · rw [if_pos q]
      · rw [if_neg q, if_pos q2]
      · rw [if_neg q, if_neg q2]
    · have hM : Ok ((fX12_isFrame N s (t : Int)).bind fun r1 => (if iZ r1 = iZ 0 then (some (((-2 : Int), (0 : Int)))) else ((fX12_isIn N x2 0 2).bind fun r3 => (if iZ r3 = iZ 0 then (some (((-2), 0))) else (gd ((0 : Int) ≤ (2 : Int) ∧ (2 : Int) < 1551) (if iZ ((t : Int) + 1) = iZ (F : Int) then (some (((-1), 0))) else (fX12_shift_L53 N s (t : Int) x2 (fX12_shift_j150 N s (t : Int) x2) N 0 0 ((-1)) 0 0))))))) (fun q => -2 = q.1) := Ok.bind (isFrame_t hs.2.2.1 hF f1) (fun a1 b1 => Ok.eqn (by omega) (Ok.bind (isIn_f (by omega) f2) (fun a3 b3 => Ok.eqp b3 (Ok.ret rfl))))
      exact Ok.lt (by omega) (fun _ => Ok.ret hM) (fun _ => Ok.ltp (by omega) (Ok.ret hM))
  · exact Ok.bind (hasFrame_f hF hx1 f1) (fun r3 h3 => Ok.eqp h3 (Ok.ret (Ok.bind (isFrame_f hs.2.2.1 hF hx1 f1) (fun a3 b3 => Ok.eqp b3 (Ok.ret rfl)))))
end PV
