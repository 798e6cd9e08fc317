/-! Acts: set, weight, cut, skip, dot, take, undo. -/
section PL
theorem lZ_1 : ∀ t : Fin 24, lZ 1 (t.val : Int) = ((2 ^ t.val : Nat) : Int) := by decide
theorem bit_test (M u : Nat) : M / 2 ^ u % 2 = if M.testBit u then 1 else 0 := by
  rw [Nat.testBit_eq_decide_div_mod_eq]
  have h : M / 2 ^ u % 2 < 2 := Nat.mod_lt _ (by decide)
  by_cases q : M / 2 ^ u % 2 = 1
  · rw [q]; rfl
  · rw [decide_eq_false q]
    show _ = 0
    omega
theorem pow_24 : ∀ t : Fin 24, 2 ^ t.val < 16777216 := by decide
theorem bit_xor {M t u : Nat} : (M ^^^ 2 ^ t) / 2 ^ u % 2 = if u = t then 1 - M / 2 ^ u % 2 else M / 2 ^ u % 2 := by
  rw [bit_test, bit_test, Nat.testBit_xor, Nat.testBit_two_pow]
  by_cases q : u = t
  · rw [if_pos q, decide_eq_true q.symm]
    cases M.testBit u <;> rfl
  · rw [if_neg q, decide_eq_false (fun z => q z.symm)]
    cases M.testBit u <;> rfl
theorem bit_or {M t u : Nat} : (M ||| 2 ^ t) / 2 ^ u % 2 = if u = t then 1 else M / 2 ^ u % 2 := by
  rw [bit_test, bit_test, Nat.testBit_or, Nat.testBit_two_pow]
  by_cases q : u = t
  · rw [if_pos q, decide_eq_true q.symm]
    cases M.testBit u <;> rfl
  · rw [if_neg q, decide_eq_false (fun z => q z.symm)]
    cases M.testBit u <;> rfl
theorem BitsR.flip {m : Int} {c : Nat → Int} {t : Nat} (h : BitsR m c) (ht : t < 24) : BitsR (xZ m (lZ 1 (t : Int))) (uZ c t (1 - c t)) := by
  obtain ⟨M, rfl, hM, hc⟩ := h
  have hp := pow_24 ⟨t, ht⟩
  have e1 : lZ 1 (t : Int) = ((2 ^ t : Nat) : Int) := lZ_1 ⟨t, ht⟩
  have hp2 : 2 ^ t < 16777216 := hp
  refine ⟨M ^^^ 2 ^ t, by rw [e1]; exact xZ_nat (by omega) (by omega), Nat.xor_lt_two_pow (n := 24) hM hp2, fun u hu => ?_⟩
  rw [bit_xor]
  by_cases q : u = t
  · rw [q, uZ_at, if_pos rfl, hc t ht]
    have h2 : M / 2 ^ t % 2 < 2 := Nat.mod_lt _ (by decide)
    omega
  · rw [uZ_ne q, if_neg q]; exact hc u hu
theorem BitsR.put {m : Int} {c : Nat → Int} {t : Nat} (h : BitsR m c) (ht : t < 24) : BitsR (oZ m (lZ 1 (t : Int))) (uZ c t 1) := by
  obtain ⟨M, rfl, hM, hc⟩ := h
  have hp2 : 2 ^ t < 16777216 := pow_24 ⟨t, ht⟩
  have e1 : lZ 1 (t : Int) = ((2 ^ t : Nat) : Int) := lZ_1 ⟨t, ht⟩
  refine ⟨M ||| 2 ^ t, by rw [e1]; exact oZ_nat (by omega) (by omega), Nat.or_lt_two_pow (n := 24) hM hp2, fun u hu => ?_⟩
  rw [bit_or]
  by_cases q : u = t
  · rw [q, uZ_at, if_pos rfl]; rfl
  · rw [uZ_ne q, if_neg q]; exact hc u hu
theorem beginAct_j {N : Nat} {fa : Nat → Nat → Nat} {fd fc fk fs fw : Nat → Nat → Int} {fx fy fz acts : Nat → Int} {am ym : Int} {s : Nat → Int} {d cu sk se we : Nat → Int} {W H F : Nat} {lk en rd : Int} (hN : 12000 < N) (hv : FV d cu sk se we W H F) (hs : SR s d cu sk se we W H F) (ha : AcJ fd fc fk fs fw fx fy fz acts am ym) : Ok (fX11_beginAct N W H F d cu sk se we am lk en rd fa fd fc fk fs fw fx fy fz) (fun r => r.2.1 = 0 ∧ r.2.2.1 = 0 ∧ r.2.2.2.1 = 0 ∧ Ok (fX12_remembers N s ym acts) (fun q => AcJ r.2.2.2.2.2.1 r.2.2.2.2.2.2.1 r.2.2.2.2.2.2.2.1 r.2.2.2.2.2.2.2.2.1 r.2.2.2.2.2.2.2.2.2.1 r.2.2.2.2.2.2.2.2.2.2.1 r.2.2.2.2.2.2.2.2.2.2.2.1 r.2.2.2.2.2.2.2.2.2.2.2.2 q.2 r.1 q.1)) := by
  unfold fX11_beginAct fX11_forgetDerived fX1_forget
  exact Ok.bind (keep_j hN hv hs ha) (fun r1 h1 => Ok.bind (P := fun r => r = (0, 0, 0)) (Ok.bind (Ok.ret (P := fun r => r = (0, 0)) rfl) (fun r hr => by subst hr; exact Ok.ret rfl)) (fun r2 h2 => by subst h2; exact Ok.ret ⟨rfl, rfl, rfl, h1⟩))
/-! set -/
def alP (se : Nat → Int) (k : Nat) (x : Int) : Prop := 0 ≤ x ∧ x ≤ hsZ k ∧ (k = 1 → x ≤ se 2) ∧ (k = 2 → se 1 ≤ x)
theorem hs_b {k : Nat} (hk : k < 6) : (k = 0 ∧ hsZ k = 3) ∨ (k = 1 ∧ hsZ k = 15) ∨ (k = 2 ∧ hsZ k = 15) ∨ (k = 3 ∧ hsZ k = 15) ∨ (k = 4 ∧ hsZ k = 999) ∨ (k = 5 ∧ hsZ k = 2) := by
  have h8 : k = 0 ∨ k = 1 ∨ k = 2 ∨ k = 3 ∨ k = 4 ∨ k = 5 := by omega
  rcases h8 with rfl | rfl | rfl | rfl | rfl | rfl
  · exact Or.inl ⟨rfl, rfl⟩
  · exact Or.inr (Or.inl ⟨rfl, rfl⟩)
  · exact Or.inr (Or.inr (Or.inl ⟨rfl, rfl⟩))
  · exact Or.inr (Or.inr (Or.inr (Or.inl ⟨rfl, rfl⟩)))
  · exact Or.inr (Or.inr (Or.inr (Or.inr (Or.inl ⟨rfl, rfl⟩))))
  · exact Or.inr (Or.inr (Or.inr (Or.inr (Or.inr ⟨rfl, rfl⟩))))
theorem allows_ok {N k : Nat} {se : Nat → Int} {x : Int} (hse : SeV se) (hk : k < 6) (hx : -2147483648 ≤ x ∧ x < 2147483648) : Ok (fX2_allows N se k x) (fun r => (r = 1 ∧ alP se k x) ∨ (r = 0 ∧ ¬ alP se k x)) := by
  unfold fX2_allows alP
  rw [(show ((1 : Int)).toNat = 1 from rfl), (show ((2 : Int)).toNat = 2 from rfl), Int.toNat_natCast]
  have h1 := hse.2.1
  have h2 := hse.2.2.1
  have hb := hs_b hk
  refine Ok.lt (by omega) (fun q => Ok.ret (Or.inr ⟨rfl, fun z => by omega⟩)) (fun q => Ok.gd (by omega) ?_)
  refine Ok.lt (by omega) (fun q2 => Ok.ret (Or.inr ⟨rfl, fun z => by omega⟩)) (fun q2 => ?_)
  refine Ok.eq (by omega) (fun q3 => Ok.gd (by omega) ?_) (fun q3 => ?_)
  · exact Ok.lt (by omega) (fun q4 => Ok.ret (Or.inr ⟨rfl, fun z => by omega⟩)) (fun q4 => Ok.ret (Or.inl ⟨rfl, by omega⟩))
  · refine Ok.eq (by omega) (fun q4 => Ok.gd (by omega) ?_) (fun q4 => Ok.ret (Or.inl ⟨rfl, by omega⟩))
    exact Ok.lt (by omega) (fun q4 => Ok.ret (Or.inr ⟨rfl, fun z => by omega⟩)) (fun q4 => Ok.ret (Or.inl ⟨rfl, by omega⟩))
theorem isIn_r {N : Nat} {v a b : Int} (hb : (-2147483648 ≤ v ∧ v < 2147483648) ∧ (-2147483648 ≤ a ∧ a < 2147483648) ∧ -2147483648 ≤ b ∧ b < 2147483648) : Ok ((fX12_isIn N v a b).bind fun r2 => (gd (r2 = 0 ∨ r2 = 1) (some r2))) (fun r => (r = 1 ∧ a ≤ v ∧ v ≤ b) ∨ (r = 0 ∧ ¬ (a ≤ v ∧ v ≤ b))) := by
  by_cases q : a ≤ v ∧ v ≤ b
  · exact Ok.bind (isIn_t hb q) (fun r hr => Ok.gd (by omega) (Ok.ret (Or.inl ⟨hr, q⟩)))
  · exact Ok.bind (isIn_f hb q) (fun r hr => Ok.gd (by omega) (Ok.ret (Or.inr ⟨hr, q⟩)))
theorem canSet_ok {N k : Nat} {d cu sk se we : Nat → Int} {W H F : Nat} {s : Nat → Int} {x : Int} (hs : SR s d cu sk se we W H F) (hse : SeV se) (hk : k < 6) (hx : -2147483648 ≤ x ∧ x < 2147483648) : Ok (fX12_canSet N s k x) (fun r => (r = 1 ∧ alP se k x) ∨ (r = 0 ∧ ¬ alP se k x)) := by
  unfold fX12_canSet alP
  have s4 : s 4 = se 1 := hs.2.2.2.1 1 (by omega)
  have s5 : s 5 = se 2 := hs.2.2.2.1 2 (by omega)
  rw [(show ((5 : Int)).toNat = 5 from rfl), (show ((4 : Int)).toNat = 4 from rfl), s4, s5]
  have h1 := hse.2.1
  have h2 := hse.2.2.1
  have hb := hs_b hk
  refine Ok.eq (by omega) (fun q => Ok.mono (isIn_r (by omega)) (fun r hr => by omega)) (fun q => ?_)
  refine Ok.eq (by omega) (fun q => Ok.gd (by omega) (Ok.mono (isIn_r (by omega)) (fun r hr => by omega))) (fun q => ?_)
  refine Ok.eq (by omega) (fun q => Ok.gd (by omega) (Ok.mono (isIn_r (by omega)) (fun r hr => by omega))) (fun q => ?_)
  refine Ok.eq (by omega) (fun q => ?_) (fun q => ?_)
  · by_cases f : 0 ≤ x ∧ x < 16
    · exact Ok.bind (mshade_t f) (fun r hr => Ok.gd (by omega) (Ok.ret (by omega)))
    · exact Ok.bind (mshade_f hx f) (fun r hr => Ok.gd (by omega) (Ok.ret (by omega)))
  · refine Ok.eq (by omega) (fun q => Ok.mono (isIn_r (by omega)) (fun r hr => by omega)) (fun q => ?_)
    exact Ok.mono (isIn_r (by omega)) (fun r hr => by omega)
theorem FV.set {d cu sk se we : Nat → Int} {W H F : Nat} {k : Nat} {x : Int} (hv : FV d cu sk se we W H F) (h : alP se k x) : FV d cu sk (uZ se k x) we W H F := by
  obtain ⟨v1, v2, v3, v4, v5, v6, v7, v8, v9, v10⟩ := hv
  refine ⟨v1, v2, v3, v4, v5, v6, v7, fun j hj => ?_, ?_, v10⟩
  · by_cases q : j = k
    · rw [q, uZ_at]; exact ⟨h.1, h.2.1⟩
    · rw [uZ_ne q]; exact v8 j hj
  · by_cases q : 1 = k
    · rw [← q, uZ_at, uZ_ne (by omega)]; exact h.2.2.1 q.symm
    · rw [uZ_ne q]
      by_cases q2 : 2 = k
      · rw [← q2, uZ_at]; exact h.2.2.2 q2.symm
      · rw [uZ_ne q2]; exact v9
theorem SR.set {d cu sk se we : Nat → Int} {W H F : Nat} {s : Nat → Int} {k : Nat} {x : Int} (hs : SR s d cu sk se we W H F) (hk : k < 6) : SR (uZ s (3 + k) x) d cu sk (uZ se k x) we W H F := by
  obtain ⟨h1, h2, h3, h4, h5, h6, h7, h8⟩ := hs
  refine ⟨by rw [uZ_ne (by omega)]; exact h1, by rw [uZ_ne (by omega)]; exact h2, by rw [uZ_ne (by omega)]; exact h3, fun j hj => ?_, fun j hj => by rw [uZ_ne (by omega)]; exact h5 j hj, by rw [uZ_ne (by omega)]; exact h6, by rw [uZ_ne (by omega)]; exact h7, fun u q hu hq => by rw [uZ_ne (by omega)]; exact h8 u q hu hq⟩
  by_cases q : j = k
  · rw [q, uZ_at, uZ_at]
  · rw [uZ_ne q, uZ_ne (by omega)]; exact h4 j hj
theorem set_j {N : Nat} {fa : Nat → Nat → Nat} {fd fc fk fs fw : Nat → Nat → Int} {fx fy fz acts : Nat → Int} {am ym : Int} {s : Nat → Int} {d cu sk se we : Nat → Int} {W H F : Nat} {lk en rd th x1 x2 : Int} (hN : 12000 < N) (hv : FV d cu sk se we W H F) (hs : SR s d cu sk se we W H F) (ha : AcJ fd fc fk fs fw fx fy fz acts am ym) (hx1 : -2147483648 ≤ x1 ∧ x1 < 2147483648) (hx2 : -2147483648 ≤ x2 ∧ x2 < 2147483648) : Ok (fX11_set N W H F d cu sk we se am lk en rd fa fd fc fk fs fw fx fy fz x1 x2) (fun r => Ok (fX12_set N ym th s acts x1 x2) (fun q => r.1 = q.1 ∧ FV d cu sk r.2.1 we W H F ∧ SR q.2.2.2.1 d cu sk r.2.1 we W H F ∧ AcJ r.2.2.2.2.2.2.2.1 r.2.2.2.2.2.2.2.2.1 r.2.2.2.2.2.2.2.2.2.1 r.2.2.2.2.2.2.2.2.2.2.1 r.2.2.2.2.2.2.2.2.2.2.2.1 r.2.2.2.2.2.2.2.2.2.2.2.2.1 r.2.2.2.2.2.2.2.2.2.2.2.2.2.1 r.2.2.2.2.2.2.2.2.2.2.2.2.2.2 q.2.2.2.2 r.2.2.1 q.2.1 ∧ ((r.2.2.2.1 = 0 ∧ r.2.2.2.2.1 = 0 ∧ r.2.2.2.2.2.1 = 0) ∨ (r.2.1 = se ∧ r.2.2.2.1 = lk ∧ r.2.2.2.2.1 = en ∧ r.2.2.2.2.2.1 = rd)))) := by
  unfold fX11_set fX12_set fX11_isSetting
  by_cases f1 : 0 ≤ x1 ∧ x1 ≤ 5
  · obtain ⟨k, rfl⟩ : ∃ k : Nat, x1 = (k : Int) := ⟨x1.toNat, by omega⟩
    have hk : k < 6 := by omega
    refine Ok.bind (P := fun r => r = 1) (Ok.ltn (by omega) (Ok.ltp (by omega) (Ok.ret rfl))) (fun r1 h1 => Ok.eqn (by omega) ?_)
    refine Ok.bind (allows_ok hv.seV hk hx2) (fun r3 h3 => ?_)
    rcases h3 with ⟨h3, q⟩ | ⟨h3, q⟩
    · refine Ok.eqn (by omega) (Ok.gd (by omega) (Ok.bind (beginAct_j hN hv hs ha) (fun r6 h6 => Ok.gd (by omega) (Ok.ret ?_))))
      refine Ok.bind (isIn_t (by omega) f1) (fun a1 b1 => Ok.eqn (by omega) (Ok.bind (canSet_ok hs hv.seV hk hx2) (fun a3 b3 => ?_)))
      have b3' : a3 = 1 := by
        rcases b3 with z | z
        · exact z.1
        · exact absurd q z.2
      refine Ok.eqn (by omega) (Ok.bind h6.2.2.2 (fun a5 b5 => Ok.gd (by omega) (Ok.gd (by omega) (Ok.ret ?_))))
      rw [Int.toNat_natCast, show (3 + (k : Int)).toNat = 3 + k by omega]
      exact ⟨(hs.2.2.2.1 k hk).symm, hv.set q, hs.set hk, b5, Or.inl ⟨h6.1, h6.2.1, h6.2.2.1⟩⟩
    · refine Ok.eqp h3 (Ok.ret (Ok.bind (isIn_t (by omega) f1) (fun a1 b1 => Ok.eqn (by omega) (Ok.bind (canSet_ok hs hv.seV hk hx2) (fun a3 b3 => ?_)))))
      have b3' : a3 = 0 := by
        rcases b3 with z | z
        · exact absurd z.2 q
        · exact z.1
      exact Ok.eqp b3' (Ok.ret ⟨rfl, hv, hs, ha, Or.inr ⟨rfl, rfl, rfl, rfl⟩⟩)
  · refine Ok.bind (P := fun r => r = 0) (Ok.lt (by omega) (fun _ => Ok.ret rfl) (fun _ => Ok.ltn (by omega) (Ok.ret rfl))) (fun r1 h1 => Ok.eqp h1 (Ok.ret ?_))
    exact Ok.bind (isIn_f (by omega) f1) (fun a1 b1 => Ok.eqp b1 (Ok.ret ⟨rfl, hv, hs, ha, Or.inr ⟨rfl, rfl, rfl, rfl⟩⟩))
/-! weight -/
theorem FV.wt {d cu sk se we : Nat → Int} {W H F : Nat} {k : Nat} {x : Int} (hv : FV d cu sk se we W H F) (h : 1 ≤ x ∧ x ≤ 9) : FV d cu sk se (uZ we k x) W H F := by
  obtain ⟨v1, v2, v3, v4, v5, v6, v7, v8, v9, v10⟩ := hv
  refine ⟨v1, v2, v3, v4, v5, v6, v7, v8, v9, fun j hj => ?_⟩
  by_cases q : j = k
  · rw [q, uZ_at]; exact h
  · rw [uZ_ne q]; exact v10 j hj
theorem SR.wt {d cu sk se we : Nat → Int} {W H F : Nat} {s : Nat → Int} {k : Nat} {x : Int} (hs : SR s d cu sk se we W H F) (hk : k < 4) : SR (uZ s (9 + k) x) d cu sk se (uZ we k x) W H F := by
  obtain ⟨h1, h2, h3, h4, h5, h6, h7, h8⟩ := hs
  refine ⟨by rw [uZ_ne (by omega)]; exact h1, by rw [uZ_ne (by omega)]; exact h2, by rw [uZ_ne (by omega)]; exact h3, fun j hj => by rw [uZ_ne (by omega)]; exact h4 j hj, fun j hj => ?_, by rw [uZ_ne (by omega)]; exact h6, by rw [uZ_ne (by omega)]; exact h7, fun u q hu hq => by rw [uZ_ne (by omega)]; exact h8 u q hu hq⟩
  by_cases q : j = k
  · rw [q, uZ_at, uZ_at]
  · rw [uZ_ne q, uZ_ne (by omega)]; exact h5 j hj
theorem weight_j {N : Nat} {fa : Nat → Nat → Nat} {fd fc fk fs fw : Nat → Nat → Int} {fx fy fz acts : Nat → Int} {am ym : Int} {s : Nat → Int} {d cu sk se we : Nat → Int} {W H F : Nat} {lk en rd th x1 x2 : Int} (hN : 12000 < N) (hv : FV d cu sk se we W H F) (hs : SR s d cu sk se we W H F) (ha : AcJ fd fc fk fs fw fx fy fz acts am ym) (hx1 : -2147483648 ≤ x1 ∧ x1 < 2147483648) (hx2 : -2147483648 ≤ x2 ∧ x2 < 2147483648) : Ok (fX11_weight N W H F d cu sk se we am lk en rd fa fd fc fk fs fw fx fy fz x1 x2) (fun r => Ok (fX12_weight N ym th acts s x1 x2) (fun q => r.1 = q.1 ∧ FV d cu sk se r.2.1 W H F ∧ SR q.2.2.2.2 d cu sk se r.2.1 W H F ∧ AcJ r.2.2.2.2.2.2.2.1 r.2.2.2.2.2.2.2.2.1 r.2.2.2.2.2.2.2.2.2.1 r.2.2.2.2.2.2.2.2.2.2.1 r.2.2.2.2.2.2.2.2.2.2.2.1 r.2.2.2.2.2.2.2.2.2.2.2.2.1 r.2.2.2.2.2.2.2.2.2.2.2.2.2.1 r.2.2.2.2.2.2.2.2.2.2.2.2.2.2 q.2.2.2.1 r.2.2.1 q.2.1 ∧ ((r.2.2.2.1 = 0 ∧ r.2.2.2.2.1 = 0 ∧ r.2.2.2.2.2.1 = 0) ∨ (r.2.1 = we ∧ r.2.2.2.1 = lk ∧ r.2.2.2.2.1 = en ∧ r.2.2.2.2.2.1 = rd)))) := by
  unfold fX11_weight fX12_weight
  have no : ∀ {P : Prop}, P → P := fun h => h
  by_cases f1 : 0 ≤ x1 ∧ x1 ≤ 3
  · obtain ⟨k, rfl⟩ : ∃ k : Nat, x1 = (k : Int) := ⟨x1.toNat, by omega⟩
    have hk : k < 4 := by omega
    refine Ok.ltn (by omega) (Ok.ltp (by omega) ?_)
    have hM : ¬ (1 ≤ x2 ∧ x2 ≤ 9) → Ok ((fX12_isIn N (k : Int) 0 3).bind fun r1 => (if iZ r1 = iZ 0 then (some (((-2 : Int), ym, (0 : Int), acts, s))) else ((fX12_isIn N x2 1 9).bind fun r3 => (if iZ r3 = iZ 0 then (some (((-3), ym, 0, acts, s))) else ((fX12_remembers N s ym acts).bind fun r5 => (gd ((0 : Int) ≤ 9 + (k : Int) ∧ 9 + (k : Int) < 1551) (gd ((0 : Int) ≤ 9 + (k : Int) ∧ 9 + (k : Int) < 1551) (some ((s (9 + (k : Int)).toNat, r5.1, 0, r5.2, uZ s (9 + (k : Int)).toNat x2)))))))))) (fun q => -3 = q.1 ∧ FV d cu sk se we W H F ∧ SR q.2.2.2.2 d cu sk se we W H F ∧ AcJ fd fc fk fs fw fx fy fz q.2.2.2.1 am q.2.1 ∧ ((lk = 0 ∧ en = 0 ∧ rd = 0) ∨ (we = we ∧ lk = lk ∧ en = en ∧ rd = rd))) := fun f2 =>
      Ok.bind (isIn_t (by omega) f1) (fun a1 b1 => Ok.eqn (by omega) (Ok.bind (isIn_f (by omega) f2) (fun a3 b3 => Ok.eqp b3 (Ok.ret ⟨rfl, hv, hs, ha, Or.inr ⟨rfl, rfl, rfl, rfl⟩⟩))))
    refine Ok.lt (by omega) (fun q => Ok.ret (hM (by omega))) (fun q => Ok.lt (by omega) (fun q2 => Ok.ret (hM (by omega))) (fun q2 => ?_))
    refine Ok.gd (by omega) (Ok.bind (beginAct_j hN hv hs ha) (fun r6 h6 => Ok.gd (by omega) (Ok.ret ?_)))
    refine Ok.bind (isIn_t (by omega) f1) (fun a1 b1 => Ok.eqn (by omega) (Ok.bind (isIn_t (by omega) (by omega)) (fun a3 b3 => Ok.eqn (by omega) (Ok.bind h6.2.2.2 (fun a5 b5 => Ok.gd (by omega) (Ok.gd (by omega) (Ok.ret ?_)))))))
    rw [Int.toNat_natCast, show (9 + (k : Int)).toNat = 9 + k by omega]
    exact ⟨(hs.2.2.2.2.1 k hk).symm, hv.wt (by omega), hs.wt hk, b5, Or.inl ⟨h6.1, h6.2.1, h6.2.2.1⟩⟩
  · have hM : Ok ((fX12_isIn N x1 0 3).bind fun r1 => (if iZ r1 = iZ 0 then (some (((-2 : Int), ym, (0 : Int), acts, s))) else ((fX12_isIn N x2 1 9).bind fun r3 => (if iZ r3 = iZ 0 then (some (((-3), ym, 0, acts, s))) else ((fX12_remembers N s ym acts).bind fun r5 => (gd ((0 : Int) ≤ 9 + x1 ∧ 9 + x1 < 1551) (gd ((0 : Int) ≤ 9 + x1 ∧ 9 + x1 < 1551) (some ((s (9 + x1).toNat, r5.1, 0, r5.2, uZ s (9 + x1).toNat x2)))))))))) (fun q => -2 = q.1 ∧ FV d cu sk se we W H F ∧ SR q.2.2.2.2 d cu sk se we W H F ∧ AcJ fd fc fk fs fw fx fy fz q.2.2.2.1 am q.2.1 ∧ ((lk = 0 ∧ en = 0 ∧ rd = 0) ∨ (we = we ∧ lk = lk ∧ en = en ∧ rd = rd))) :=
      Ok.bind (isIn_f (by omega) f1) (fun a1 b1 => Ok.eqp b1 (Ok.ret ⟨rfl, hv, hs, ha, Or.inr ⟨rfl, rfl, rfl, rfl⟩⟩))
    exact Ok.lt (by omega) (fun q => Ok.ret hM) (fun q => Ok.ltn (by omega) (Ok.ret hM))
/-! cut, skip -/
theorem FV.flipc {d cu sk se we : Nat → Int} {W H F : Nat} {t : Nat} (hv : FV d cu sk se we W H F) (ht : t < F) : FV d (uZ cu t (1 - cu t)) sk se we W H F := by
  obtain ⟨v1, v2, v3, v4, v5, v6, v7, v8, v9, v10⟩ := hv
  refine ⟨v1, v2, v3, v4, fun j hj => ?_, v6, fun j h1 h2 => ?_, v8, v9, v10⟩
  · by_cases q : j = t
    · rw [q, uZ_at]; have := v5 t (by omega); omega
    · rw [uZ_ne q]; exact v5 j hj
  · rw [uZ_ne (by omega)]; exact v7 j h1 h2
theorem FV.flips {d cu sk se we : Nat → Int} {W H F : Nat} {t : Nat} (hv : FV d cu sk se we W H F) (ht : t < F) : FV d cu (uZ sk t (1 - sk t)) se we W H F := by
  obtain ⟨v1, v2, v3, v4, v5, v6, v7, v8, v9, v10⟩ := hv
  refine ⟨v1, v2, v3, v4, v5, fun j hj => ?_, fun j h1 h2 => ?_, v8, v9, v10⟩
  · by_cases q : j = t
    · rw [q, uZ_at]; have := v6 t (by omega); omega
    · rw [uZ_ne q]; exact v6 j hj
  · rw [uZ_ne (show j ≠ t by omega)]; exact v7 j h1 h2
theorem SR.cuts {d cu sk se we : Nat → Int} {W H F : Nat} {s cu' : Nat → Int} {x : Int} (hs : SR s d cu sk se we W H F) (hb : BitsR x cu') : SR (uZ s 13 x) d cu' sk se we W H F := by
  obtain ⟨h1, h2, h3, h4, h5, h6, h7, h8⟩ := hs
  exact ⟨by rw [uZ_ne (by omega)]; exact h1, by rw [uZ_ne (by omega)]; exact h2, by rw [uZ_ne (by omega)]; exact h3, fun j hj => by rw [uZ_ne (by omega)]; exact h4 j hj, fun j hj => by rw [uZ_ne (by omega)]; exact h5 j hj, by rw [uZ_at]; exact hb, by rw [uZ_ne (by omega)]; exact h7, fun u q hu hq => by rw [uZ_ne (by omega)]; exact h8 u q hu hq⟩
theorem SR.skips {d cu sk se we : Nat → Int} {W H F : Nat} {s sk' : Nat → Int} {x : Int} (hs : SR s d cu sk se we W H F) (hb : BitsR x sk') : SR (uZ s 14 x) d cu sk' se we W H F := by
  obtain ⟨h1, h2, h3, h4, h5, h6, h7, h8⟩ := hs
  exact ⟨by rw [uZ_ne (by omega)]; exact h1, by rw [uZ_ne (by omega)]; exact h2, by rw [uZ_ne (by omega)]; exact h3, fun j hj => by rw [uZ_ne (by omega)]; exact h4 j hj, fun j hj => by rw [uZ_ne (by omega)]; exact h5 j hj, by rw [uZ_ne (by omega)]; exact h6, by rw [uZ_at]; exact hb, fun u q hu hq => by rw [uZ_ne (by omega)]; exact h8 u q hu hq⟩
theorem cut_j {N : Nat} {fa : Nat → Nat → Nat} {fd fc fk fs fw : Nat → Nat → Int} {fx fy fz acts : Nat → Int} {am ym : Int} {s me mc be c so fo : Nat → Int} {d cu sk se we : Nat → Int} {W H F : Nat} {lk en rd th many x1 : Int} (hN : 12000 < N) (hv : FV d cu sk se we W H F) (hs : SR s d cu sk se we W H F) (ha : AcJ fd fc fk fs fw fx fy fz acts am ym) (hx1 : -2147483648 ≤ x1 ∧ x1 < 2147483648) : Ok (fX11_cut N W H F d sk se we am cu lk en rd c many so fo fa fd fc fk fs fw fx fy fz x1) (fun r => Ok (fX12_cut N ym th s acts me mc be x1) (fun q => r.1 = q.1 ∧ FV d r.2.2.1 sk se we W H F ∧ SR q.2.2.2.1 d r.2.2.1 sk se we W H F ∧ AcJ r.2.2.2.2.2.2.2.2.2.2.2.1 r.2.2.2.2.2.2.2.2.2.2.2.2.1 r.2.2.2.2.2.2.2.2.2.2.2.2.2.1 r.2.2.2.2.2.2.2.2.2.2.2.2.2.2.1 r.2.2.2.2.2.2.2.2.2.2.2.2.2.2.2.1 r.2.2.2.2.2.2.2.2.2.2.2.2.2.2.2.2.1 r.2.2.2.2.2.2.2.2.2.2.2.2.2.2.2.2.2.1 r.2.2.2.2.2.2.2.2.2.2.2.2.2.2.2.2.2.2 q.2.2.2.2.1 r.2.1 q.2.1 ∧ ((LkI d r.2.2.1 sk se we W H F r.2.2.2.1 r.2.2.2.2.2.2.1 r.2.2.2.2.2.2.2.1 r.2.2.2.2.2.2.2.2.1 r.2.2.2.2.2.2.2.2.2.1 ∧ r.2.2.2.2.1 = 0 ∧ r.2.2.2.2.2.1 = 0) ∨ (r.2.2.1 = cu ∧ r.2.2.2.1 = lk ∧ r.2.2.2.2.1 = en ∧ r.2.2.2.2.2.1 = rd ∧ r.2.2.2.2.2.2.1 = c ∧ r.2.2.2.2.2.2.2.1 = many ∧ r.2.2.2.2.2.2.2.2.1 = so ∧ r.2.2.2.2.2.2.2.2.2.1 = fo)))) := by
  have hF := hv.2.2.1
  unfold fX11_cut fX12_cut
  by_cases f1 : 0 ≤ x1 ∧ x1 < F
  · by_cases f2 : x1 = 0
    · refine Ok.eqp f2 (Ok.ret ?_)
      exact Ok.bind (isFrame_t hs.2.2.1 hF f1) (fun a1 b1 => Ok.eqn (by omega) (Ok.eqp f2 (Ok.ret ⟨rfl, hv, hs, ha, Or.inr ⟨rfl, rfl, rfl, rfl, rfl, rfl, rfl, rfl⟩⟩)))
    · obtain ⟨t, rfl⟩ : ∃ t : Nat, x1 = (t : Int) := ⟨x1.toNat, by omega⟩
      have ht : t < F := by omega
      rw [Int.toNat_natCast]
      refine Ok.eqn (by omega) (Ok.bind (hasFrame_t hF f1) (fun r2 h2 => Ok.eqn (by omega) (Ok.bind (beginAct_j hN hv hs ha) (fun r4 h4 => Ok.gd (by omega) (Ok.gd (by omega) ?_)))))
      have hv2 := hv.flipc ht
      refine Ok.bind (looked_ok hv2 (by omega) (Or.inl h4.1)) (fun r7 h7 => Ok.ret ?_)
      have hs2 := hs.cuts (hs.2.2.2.2.2.1.flip (t := t) (by omega))
      refine Ok.bind (isFrame_t hs.2.2.1 hF f1) (fun a1 b1 => Ok.eqn (by omega) (Ok.eqn (by omega) (Ok.bind h4.2.2.2 (fun a4 b4 => Ok.gd (by omega) (Ok.gd (by omega) ?_)))))
      rw [(show ((13 : Int)).toNat = 13 from rfl)]
      refine Ok.bind (mlays_ok hs2 hv2 (by omega)) (fun a7 b7 => Ok.bind (scenes_ok b7.2.2 hF hs2.2.2.1 (by omega)) (fun a8 b8 => Ok.ret ⟨?_, hv2, hs2, b4, Or.inl ⟨Or.inr h7, h4.2.1, h4.2.2.1⟩⟩))
      show r7.2.2.1 = a8
      rw [b8]; exact h7.2.2.2.1
  · have hM : Ok ((fX12_isFrame N s x1).bind fun r1 => (if iZ r1 = iZ 0 then (some (((-2 : Int), ym, (0 : Int), s, acts, me, mc, be))) else (if iZ x1 = iZ 0 then (some (((-2), ym, 0, s, acts, me, mc, be))) else ((fX12_remembers N s ym acts).bind fun r4 => (gd ((0 : Int) ≤ (13 : Int) ∧ (13 : Int) < 1551) (gd ((0 : Int) ≤ (13 : Int) ∧ (13 : Int) < 1551) ((fX12_lays N (uZ s (13 : Int).toNat (xZ (s (13 : Int).toNat) (lZ 1 x1))) me mc be).bind fun r7 => ((fX12_scenes N (uZ s (13 : Int).toNat (xZ (s (13 : Int).toNat) (lZ 1 x1))) r7.2.2).bind fun r8 => (some ((r8, r4.1, 0, uZ s (13 : Int).toNat (xZ (s (13 : Int).toNat) (lZ 1 x1)), r4.2, r7.1, r7.2.1, r7.2.2))))))))))) (fun q => -2 = q.1 ∧ FV d cu sk se we W H F ∧ SR q.2.2.2.1 d cu sk se we W H F ∧ AcJ fd fc fk fs fw fx fy fz q.2.2.2.2.1 am q.2.1 ∧ ((LkI d cu sk se we W H F lk c many so fo ∧ en = 0 ∧ rd = 0) ∨ (cu = cu ∧ lk = lk ∧ en = en ∧ rd = rd ∧ c = c ∧ many = many ∧ so = so ∧ fo = fo))) :=
      Ok.bind (isFrame_f hs.2.2.1 hF hx1 f1) (fun a1 b1 => Ok.eqp b1 (Ok.ret ⟨rfl, hv, hs, ha, Or.inr ⟨rfl, rfl, rfl, rfl, rfl, rfl, rfl, rfl⟩⟩))
    exact Ok.eq (by omega) (fun _ => Ok.ret hM) (fun _ => Ok.bind (hasFrame_f hF hx1 f1) (fun r2 h2 => Ok.eqp h2 (Ok.ret hM)))
theorem skip_j {N : Nat} {fa : Nat → Nat → Nat} {fd fc fk fs fw : Nat → Nat → Int} {fx fy fz acts : Nat → Int} {am ym : Int} {s : Nat → Int} {d cu sk se we : Nat → Int} {W H F : Nat} {lk en rd th x1 : Int} (hN : 12000 < N) (hv : FV d cu sk se we W H F) (hs : SR s d cu sk se we W H F) (ha : AcJ fd fc fk fs fw fx fy fz acts am ym) (hx1 : -2147483648 ≤ x1 ∧ x1 < 2147483648) : Ok (fX11_skip N W H F d cu se we am sk lk en rd fa fd fc fk fs fw fx fy fz x1) (fun r => Ok (fX12_skip N ym th s acts x1) (fun q => r.1 = q.1 ∧ FV d cu r.2.2.1 se we W H F ∧ SR q.2.2.2.1 d cu r.2.2.1 se we W H F ∧ AcJ r.2.2.2.2.2.2.2.1 r.2.2.2.2.2.2.2.2.1 r.2.2.2.2.2.2.2.2.2.1 r.2.2.2.2.2.2.2.2.2.2.1 r.2.2.2.2.2.2.2.2.2.2.2.1 r.2.2.2.2.2.2.2.2.2.2.2.2.1 r.2.2.2.2.2.2.2.2.2.2.2.2.2.1 r.2.2.2.2.2.2.2.2.2.2.2.2.2.2 q.2.2.2.2 r.2.1 q.2.1 ∧ ((r.2.2.2.1 = 0 ∧ r.2.2.2.2.1 = 0 ∧ r.2.2.2.2.2.1 = 0) ∨ (r.2.2.1 = sk ∧ r.2.2.2.1 = lk ∧ r.2.2.2.2.1 = en ∧ r.2.2.2.2.2.1 = rd)))) := by
  have hF := hv.2.2.1
  unfold fX11_skip fX12_skip
  by_cases f1 : 0 ≤ x1 ∧ x1 < F
  · obtain ⟨t, rfl⟩ : ∃ t : Nat, x1 = (t : Int) := ⟨x1.toNat, by omega⟩
    have ht : t < F := by omega
    have hv2 := hv.flips ht
    rw [Int.toNat_natCast]
    refine Ok.bind (hasFrame_t hF f1) (fun r2 h2 => Ok.eqn (by omega) (Ok.bind (beginAct_j hN hv hs ha) (fun r4 h4 => Ok.gd (by omega) (Ok.gd (by omega) (Ok.bind (marked_ok hF (by omega) (fun u g1 g2 => (hv2.2.2.2.2.2.2.1 u g1 g2).2)) (fun r6 h6 => Ok.ret ?_))))))
    have hb2 := hs.2.2.2.2.2.2.1.flip (t := t) (by omega)
    have hs2 := hs.skips hb2
    refine Ok.bind (isFrame_t hs.2.2.1 hF f1) (fun a1 b1 => Ok.eqn (by omega) (Ok.bind h4.2.2.2 (fun a4 b4 => Ok.gd (by omega) (Ok.gd (by omega) (Ok.gd (by omega) ?_)))))
    rw [(show ((14 : Int)).toNat = 14 from rfl), uZ_at]
    exact Ok.bind (bitCount_ok hb2) (fun a7 b7 => Ok.ret ⟨by rw [h6, b7], hv2, hs2, b4, Or.inl ⟨h4.1, h4.2.1, h4.2.2.1⟩⟩)
  · exact Ok.bind (hasFrame_f hF hx1 f1) (fun r2 h2 => Ok.eqp h2 (Ok.ret (Ok.bind (isFrame_f hs.2.2.1 hF hx1 f1) (fun a1 b1 => Ok.eqp b1 (Ok.ret ⟨rfl, hv, hs, ha, Or.inr ⟨rfl, rfl, rfl, rfl⟩⟩)))))
/-! dot -/
theorem dot_j {N : Nat} {fa : Nat → Nat → Nat} {fd fc fk fs fw : Nat → Nat → Int} {fx fy fz acts : Nat → Int} {am ym : Int} {s : Nat → Int} {d cu sk se we : Nat → Int} {W H F : Nat} {lk en rd th x1 x2 x3 : Int} (hN : 12000 < N) (hv : FV d cu sk se we W H F) (hs : SR s d cu sk se we W H F) (ha : AcJ fd fc fk fs fw fx fy fz acts am ym) (hx1 : -2147483648 ≤ x1 ∧ x1 < 2147483648) (hx2 : -2147483648 ≤ x2 ∧ x2 < 2147483648) (hx3 : -2147483648 ≤ x3 ∧ x3 < 2147483648) : Ok (fX11_dot N W H F cu sk se we d am lk en rd fa fd fc fk fs fw fx fy fz x1 x2 x3) (fun r => Ok (fX12_dot N ym th s acts x1 x2 x3) (fun q => r.1 = q.1 ∧ FV r.2.1 cu sk se we W H F ∧ SR q.2.2.2.1 r.2.1 cu sk se we W H F ∧ AcJ r.2.2.2.2.2.2.2.1 r.2.2.2.2.2.2.2.2.1 r.2.2.2.2.2.2.2.2.2.1 r.2.2.2.2.2.2.2.2.2.2.1 r.2.2.2.2.2.2.2.2.2.2.2.1 r.2.2.2.2.2.2.2.2.2.2.2.2.1 r.2.2.2.2.2.2.2.2.2.2.2.2.2.1 r.2.2.2.2.2.2.2.2.2.2.2.2.2.2 q.2.2.2.2 r.2.2.1 q.2.1 ∧ ((r.2.2.2.1 = 0 ∧ r.2.2.2.2.1 = 0 ∧ r.2.2.2.2.2.1 = 0) ∨ (r.2.1 = d ∧ r.2.2.2.1 = lk ∧ r.2.2.2.2.1 = en ∧ r.2.2.2.2.2.1 = rd)))) := by
  have hF := hv.2.2.1
  have hS := size_b hv.1 hv.2.1
  unfold fX11_dot fX12_dot
  by_cases f1 : 0 ≤ x1 ∧ x1 < F
  · refine Ok.bind (hasFrame_t hF f1) (fun r1 h1 => Ok.eqn (by omega) ?_)
    by_cases f2 : 0 ≤ x2 ∧ x2 < ((W * H : Nat) : Int)
    · refine Ok.bind (hasPlace_t hS.2 f2) (fun r3 h3 => Ok.eqn (by omega) ?_)
      by_cases f3 : 0 ≤ x3 ∧ x3 < 16
      · obtain ⟨t, rfl⟩ : ∃ t : Nat, x1 = (t : Int) := ⟨x1.toNat, by omega⟩
        obtain ⟨p, rfl⟩ : ∃ p : Nat, x2 = (p : Int) := ⟨x2.toNat, by omega⟩
        have ht : t < F := by omega
        have hp : p < W * H := by omega
        refine Ok.bind (shade_t f3) (fun r5 h5 => Ok.eqn (by omega) (Ok.gd (by omega) (Ok.bind (beginAct_j hN hv hs ha) (fun r8 h8 => Ok.gd (by omega) (Ok.ret ?_)))))
        refine Ok.bind (isFrame_t hs.2.2.1 hF f1) (fun a1 b1 => Ok.eqn (by omega) (Ok.bind (isPlace_t hs hS.2 f2) (fun a3 b3 => Ok.eqn (by omega) (Ok.bind (mshade_t f3) (fun a5 b5 => Ok.eqn (by omega) (Ok.bind h8.2.2.2 (fun a7 b7 => Ok.bind (mdotAt_ok hs hv ht hp) (fun a8 b8 => Ok.gd (by omega) (Ok.ret ?_)))))))))
        rw [show ((t : Int) * 64 + (p : Int)).toNat = 64 * t + p by omega, show (15 + 64 * (t : Int) + (p : Int)).toNat = 15 + 64 * t + p by omega]
        exact ⟨b8.symm, hv.dot hp (by omega), hs.dot hS.2 hp, b7, Or.inl ⟨h8.1, h8.2.1, h8.2.2.1⟩⟩
      · exact Ok.bind (shade_f hx3 f3) (fun r5 h5 => Ok.eqp h5 (Ok.ret (Ok.bind (isFrame_t hs.2.2.1 hF f1) (fun a1 b1 => Ok.eqn (by omega) (Ok.bind (isPlace_t hs hS.2 f2) (fun a3 b3 => Ok.eqn (by omega) (Ok.bind (mshade_f hx3 f3) (fun a5 b5 => Ok.eqp b5 (Ok.ret ⟨rfl, hv, hs, ha, Or.inr ⟨rfl, rfl, rfl, rfl⟩⟩)))))))))
    · exact Ok.bind (hasPlace_f hS.2 hx2 f2) (fun r5 h5 => Ok.eqp h5 (Ok.ret (Ok.bind (isFrame_t hs.2.2.1 hF f1) (fun a1 b1 => Ok.eqn (by omega) (Ok.bind (isPlace_f hs hS.2 hx2 f2) (fun a3 b3 => Ok.eqp b3 (Ok.ret ⟨rfl, hv, hs, ha, Or.inr ⟨rfl, rfl, rfl, rfl⟩⟩)))))))
  · exact Ok.bind (hasFrame_f hF hx1 f1) (fun r2 h2 => Ok.eqp h2 (Ok.ret (Ok.bind (isFrame_f hs.2.2.1 hF hx1 f1) (fun a1 b1 => Ok.eqp b1 (Ok.ret ⟨rfl, hv, hs, ha, Or.inr ⟨rfl, rfl, rfl, rfl⟩⟩)))))
/-! take -/
theorem take_j {N : Nat} {fa : Nat → Nat → Nat} {fd fc fk fs fw : Nat → Nat → Int} {fx fy fz acts : Nat → Int} {am ym : Int} {lk en many sz : Int} {c so fo su tg tb dt ac ar no og tc : Nat → Int} {wm th rd : Int} {me mc be mt mb mo ec ev : Nat → Int} {s : Nat → Int} {d cu sk se we : Nat → Int} {W H F : Nat} (hN : 12000 < N) (hv : FV d cu sk se we W H F) (hs : SR s d cu sk se we W H F) (ha : AcJ fd fc fk fs fw fx fy fz acts am ym) (hl : LkI d cu sk se we W H F lk c many so fo) (he : EnI d cu sk se we W H F en tg tb dt tc) : Ok (fX11_take N W H F cu se sk we lk en c d many so fo su tg tb dt sz ac ar no og tc am rd fa fd fc fk fs fw fx fy fz) (fun r => Ok (fX12_take N ym th wm acts s me mc be mt mb mo ec ev) (fun q => r.1 = q.1 ∧ FV r.2.2.2.2.1 cu sk se we W H F ∧ SR q.2.2.2.2.2.1 r.2.2.2.2.1 cu sk se we W H F ∧ AcJ r.2.2.2.2.2.2.2.2.2.2.2.2.2.2.2.2.2.2.2.2.2.1 r.2.2.2.2.2.2.2.2.2.2.2.2.2.2.2.2.2.2.2.2.2.2.1 r.2.2.2.2.2.2.2.2.2.2.2.2.2.2.2.2.2.2.2.2.2.2.2.1 r.2.2.2.2.2.2.2.2.2.2.2.2.2.2.2.2.2.2.2.2.2.2.2.2.1 r.2.2.2.2.2.2.2.2.2.2.2.2.2.2.2.2.2.2.2.2.2.2.2.2.2.1 r.2.2.2.2.2.2.2.2.2.2.2.2.2.2.2.2.2.2.2.2.2.2.2.2.2.2.1 r.2.2.2.2.2.2.2.2.2.2.2.2.2.2.2.2.2.2.2.2.2.2.2.2.2.2.2.1 r.2.2.2.2.2.2.2.2.2.2.2.2.2.2.2.2.2.2.2.2.2.2.2.2.2.2.2.2 q.2.2.2.2.1 r.2.2.2.2.2.2.2.2.2.2.2.2.2.2.2.2.2.2.1 q.2.1 ∧ r.2.1 = 0 ∧ r.2.2.1 = 0 ∧ r.2.2.2.2.2.2.2.2.2.2.2.2.2.2.2.2.2.2.2.1 = 0)) := by
  have hF := hv.2.2.1
  have hS := size_b hv.1 hv.2.1
  unfold fX11_take fX12_take
  refine Ok.bind (evened_ok hv (by omega) hl he) (fun r1 h1 => ?_)
  refine Ok.bind (changedDots_ok hS.2 hF hv.2.2.2.1 (h1.2.2.2.db hv) (by omega)) (fun r2 h2 => ?_)
  refine Ok.bind (beginAct_j hN hv hs ha) (fun r3 h3 => Ok.bind (copyDots_ok hF) (fun r4 h4 => Ok.ret ?_))
  have hd4 : ∀ t p, t < F → p < W * H → EV d cu sk se we W H F (64 * t + p) = r4 (64 * t + p) := fun t p ht hp => by rw [h4 _ (by omega)]; exact (h1.2.2.2.2.2.1 t p ht hp).symm
  refine Ok.bind h3.2.2.2 (fun a1 b1 => Ok.bind (takes_ok hs hv (by omega)) (fun a2 b2 => Ok.ret ⟨?_, ?_, ?_, b1, h3.1, h3.2.1, h3.2.2.1⟩))
  · show r2 = a2.1
    rw [h2, b2.1]
    exact sI_cong (fun t ht => chS_cong (fun _ _ => rfl) (fun p hp => h1.2.2.2.2.2.1 t p ht hp))
  · exact hv.EV_v.cong hd4
  · exact b2.2.cong hd4
/-! undo -/
theorem undo_j {N : Nat} {fa : Nat → Nat → Nat} {fd fc fk fs fw : Nat → Nat → Int} {fx fy fz acts : Nat → Int} {am ym : Int} {s : Nat → Int} {d cu sk se we : Nat → Int} {W H F : Nat} {lk en rd th : Int} (hN : 12000 < N) (hv : FV d cu sk se we W H F) (hs : SR s d cu sk se we W H F) (ha : AcJ fd fc fk fs fw fx fy fz acts am ym) : Ok (fX11_undo N fd fc fk fs fw fx fy fz am W H F d cu sk se we lk en rd) (fun r => Ok (fX12_undo N acts ym th s) (fun q => r.1 = q.1 ∧ FS q.2.2.2 r.2.2.2.2.2.1 r.2.2.2.2.2.2.1 r.2.2.2.2.2.2.2.1 r.2.2.2.2.2.2.2.2.1 r.2.2.2.2.2.2.2.2.2.1 r.2.2.1 r.2.2.2.1 r.2.2.2.2.1 ∧ AcJ fd fc fk fs fw fx fy fz acts r.2.1 q.2.1 ∧ ((r.2.2.2.2.2.2.2.2.2.2.1 = 0 ∧ r.2.2.2.2.2.2.2.2.2.2.2.1 = 0 ∧ r.2.2.2.2.2.2.2.2.2.2.2.2 = 0) ∨ (r.2.2.1 = (W : Int) ∧ r.2.2.2.1 = (H : Int) ∧ r.2.2.2.2.1 = (F : Int) ∧ r.2.2.2.2.2.1 = d ∧ r.2.2.2.2.2.2.1 = cu ∧ r.2.2.2.2.2.2.2.1 = sk ∧ r.2.2.2.2.2.2.2.2.1 = se ∧ r.2.2.2.2.2.2.2.2.2.1 = we ∧ r.2.2.2.2.2.2.2.2.2.2.1 = lk ∧ r.2.2.2.2.2.2.2.2.2.2.2.1 = en ∧ r.2.2.2.2.2.2.2.2.2.2.2.2 = rd)))) := by
  obtain ⟨A, hA, rfl, rfl, hR⟩ := ha
  unfold fX11_undo fX12_undo fX11_forgetDerived fX1_forget
  refine Ok.eq (by omega) (fun q => Ok.ret (Ok.eqp q (Ok.ret ⟨rfl, ⟨W, H, F, rfl, rfl, rfl, hv, hs⟩, ⟨A, hA, rfl, rfl, hR⟩, Or.inr ⟨rfl, rfl, rfl, rfl, rfl, rfl, rfl, rfl, rfl, rfl, rfl⟩⟩))) (fun q => ?_)
  obtain ⟨B, rfl⟩ : ∃ B, A = B + 1 := ⟨A - 1, by omega⟩
  obtain ⟨Wj, Hj, Fj, e1, e2, e3, vj, sj⟩ := hR B (by omega)
  have hSj := size_b vj.1 vj.2.1
  refine Ok.bind (back_ok (by omega) e1 e2 e3 vj.2.2.1 hSj.2) (fun r2 h2 => ?_)
  refine Ok.bind (P := fun r => r = (0, 0, 0)) (Ok.bind (Ok.ret (P := fun r => r = (0, 0)) rfl) (fun r hr => by subst hr; exact Ok.ret rfl)) (fun r3 h3 => ?_)
  subst h3
  refine Ok.ret (Ok.eqn (by omega) ?_)
  rw [show ((B + 1 : Nat) : Int) - 1 = (B : Int) by omega]
  refine Ok.mono (mback_ok hN (by omega)) (fun q hq => ⟨?_, ⟨Wj, Hj, Fj, h2.2.1, h2.2.2.1, h2.2.2.2.1, vj.eq h2.2.2.2.2, (sj.row vj.2.2.1 hSj.2 hq.2.2).eq h2.2.2.2.2⟩, ⟨B, by omega, h2.1, hq.2.1, fun j hj => hR j (by omega)⟩, Or.inl ⟨rfl, rfl, rfl⟩⟩)
  show r2.1 = q.1
  rw [h2.1, hq.1]
end PL
