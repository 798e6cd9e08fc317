/-! tell -/
section QJ
theorem save_ok {N : Nat} {ty s sv : Nat → Int} {x ym th tp sz sp w wp sn sf ra : Int} {P : Int × Int × Int × Int × Int × Int × Int × Int × Int × Int × Int × (Nat → Int) × (Nat → Int) → Prop} {k : Int → Int → Int → Int → Int → Int → Int → Int → Int → Int → (Nat → Int) → (Nat → Int) → Option (Int × Int × Int × Int × Int × Int × Int × Int × Int × Int × Int × (Nat → Int) × (Nat → Int))} (hN : 12000 < N) (h : ∀ sv', (∀ j, j < 1551 → sv' j = s j) → Ok (k ym th tp sz sp w wp sn sf ra s sv') P) : Ok (fX12_tell_L59 N ty x k N 0 ym th tp sz sp w wp sn sf ra s sv) P := by
  refine Ok.loop (fun m i g => fX12_tell_L59 N ty x k m (i : Int) ym th tp sz sp w wp sn sf ra s g) 1551 (fun i g => ∀ j, j < i → g j = s j) _ ?_ ?_ N 0 sv (by omega) (by omega) (fun k hk => by omega)
  · intro m i g hi hI ih
    show Ok (fX12_tell_b59 N ty x _ _ (i : Int) ym th tp sz sp w wp sn sf ra s g) _
    unfold fX12_tell_b59
    rw [Int.toNat_natCast]
    refine Ok.ltp (by omega) (Ok.gd (by omega) (Ok.gd (by omega) (ih _ ?_)))
    intro j hj
    by_cases z : j = i
    · rw [z, uZ_at]
    · rw [uZ_ne z]; exact hI j (by omega)
  · intro m g hI
    show Ok (fX12_tell_b59 N ty x _ _ ((1551 : Nat) : Int) ym th tp sz sp w wp sn sf ra s g) _
    unfold fX12_tell_b59
    exact Ok.ltn (by omega) (h g hI)
theorem us_b : ∀ k : Fin 6, 0 ≤ usZ k.val ∧ usZ k.val ≤ hsZ k.val := by decide
theorem us_b2 {k : Nat} (hk : k < 6) : 0 ≤ usZ k ∧ usZ k ≤ hsZ k := us_b ⟨k, hk⟩
theorem tell_j {N : Nat} {fa : Nat → Nat → Nat} {fd fc fk fs fw : Nat → Nat → Int} {fx fy fz acts : Nat → Int} {am ym : Int} {s : Nat → Int} {d cu sk se we : Nat → Int} {W H F : Nat} {tx ty sv rcu rsk rwe rse rto rwt rd0 : Nat → Int} {lk en rd th ln tp fa pl ren rat rnb rna rw rh rf sz sp sn sf ra x1 : Int} (hN : 12000 < N) (hv : FV d cu sk se we W H F) (hs : SR s d cu sk se we W H F) (ha : AcJ fd fc fk fs fw fx fy fz acts am ym) (ht : TpJ ln tp tx ty) (hx1 : -2147483648 ≤ x1 ∧ x1 < 2147483648) : Ok (fX11_tell N tx ln fa pl ren rat rnb rna rw rh rf rcu rsk rwe rse rto rwt rd0 W H F d cu sk se we am lk en rd x1) (fun r => Ok (fX12_tell N ty ym th tp sz sp fa pl sn sf ra s sv x1) (fun q => r.1 = q.1 ∧ TpJ r.2.1 q.2.2.2.1 tx ty ∧ r.2.2.1 = q.2.2.2.2.2.2.1 ∧ r.2.2.2.1 = q.2.2.2.2.2.2.2.1 ∧ FS q.2.2.2.2.2.2.2.2.2.2.2.1 r.2.2.2.2.2.2.2.2.2.2.2.2.2.2.2.2.2.2.2.2.2.1 r.2.2.2.2.2.2.2.2.2.2.2.2.2.2.2.2.2.2.2.2.2.2.1 r.2.2.2.2.2.2.2.2.2.2.2.2.2.2.2.2.2.2.2.2.2.2.2.1 r.2.2.2.2.2.2.2.2.2.2.2.2.2.2.2.2.2.2.2.2.2.2.2.2.1 r.2.2.2.2.2.2.2.2.2.2.2.2.2.2.2.2.2.2.2.2.2.2.2.2.2.1 r.2.2.2.2.2.2.2.2.2.2.2.2.2.2.2.2.2.2.1 r.2.2.2.2.2.2.2.2.2.2.2.2.2.2.2.2.2.2.2.1 r.2.2.2.2.2.2.2.2.2.2.2.2.2.2.2.2.2.2.2.2.1 ∧ AcJ fd fc fk fs fw fx fy fz acts r.2.2.2.2.2.2.2.2.2.2.2.2.2.2.2.2.2.2.2.2.2.2.2.2.2.2.1 q.2.1 ∧ ((r.2.2.2.2.2.2.2.2.2.2.2.2.2.2.2.2.2.2.2.2.2.2.2.2.2.2.2.1 = 0 ∧ r.2.2.2.2.2.2.2.2.2.2.2.2.2.2.2.2.2.2.2.2.2.2.2.2.2.2.2.2.1 = 0 ∧ r.2.2.2.2.2.2.2.2.2.2.2.2.2.2.2.2.2.2.2.2.2.2.2.2.2.2.2.2.2 = 0) ∨ (r.2.2.2.2.2.2.2.2.2.2.2.2.2.2.2.2.2.2.1 = (W : Int) ∧ r.2.2.2.2.2.2.2.2.2.2.2.2.2.2.2.2.2.2.2.1 = (H : Int) ∧ r.2.2.2.2.2.2.2.2.2.2.2.2.2.2.2.2.2.2.2.2.1 = (F : Int) ∧ r.2.2.2.2.2.2.2.2.2.2.2.2.2.2.2.2.2.2.2.2.2.1 = d ∧ r.2.2.2.2.2.2.2.2.2.2.2.2.2.2.2.2.2.2.2.2.2.2.1 = cu ∧ r.2.2.2.2.2.2.2.2.2.2.2.2.2.2.2.2.2.2.2.2.2.2.2.1 = sk ∧ r.2.2.2.2.2.2.2.2.2.2.2.2.2.2.2.2.2.2.2.2.2.2.2.2.1 = se ∧ r.2.2.2.2.2.2.2.2.2.2.2.2.2.2.2.2.2.2.2.2.2.2.2.2.2.1 = we ∧ r.2.2.2.2.2.2.2.2.2.2.2.2.2.2.2.2.2.2.2.2.2.2.2.2.2.2.2.1 = lk ∧ r.2.2.2.2.2.2.2.2.2.2.2.2.2.2.2.2.2.2.2.2.2.2.2.2.2.2.2.2.1 = en ∧ r.2.2.2.2.2.2.2.2.2.2.2.2.2.2.2.2.2.2.2.2.2.2.2.2.2.2.2.2.2 = rd)))) := by
  obtain ⟨L, hL, rfl, rfl, hT⟩ := ht
  have hS := size_b hv.1 hv.2.1
  have hF := hv.2.2.1
  unfold fX11_tell fX12_tell
  have no : ¬ (0 ≤ x1 ∧ x1 ≤ (L : Int)) → Ok ((fX12_isIn N x1 0 (L : Int)).bind fun r1 => (if iZ r1 = iZ 0 then (some (((-3 : Int), ym, (0 : Int), (L : Int), sz, sp, fa, pl, sn, sf, ra, s, sv))) else (fX12_tell_L59 N ty x1 (fX12_tell_j84 N ty x1) N 0 ym 0 0 x1 0 0 (-1) 0 0 ra s sv))) (fun q => (-3 : Int) = q.1 ∧ TpJ (L : Int) q.2.2.2.1 tx ty ∧ fa = q.2.2.2.2.2.2.1 ∧ pl = q.2.2.2.2.2.2.2.1 ∧ FS q.2.2.2.2.2.2.2.2.2.2.2.1 d cu sk se we W H F ∧ AcJ fd fc fk fs fw fx fy fz acts am q.2.1) := by
    intro hn
    exact Ok.bind (isIn_f (by omega) hn) (fun r1 h1 => Ok.eqp h1 (Ok.ret ⟨rfl, ⟨L, hL, rfl, rfl, hT⟩, rfl, rfl, ⟨W, H, F, rfl, rfl, rfl, hv, hs⟩, ha⟩))
  refine Ok.lt (by omega) (fun q => Ok.ret (Ok.mono (no (by omega)) (fun z hz => ?_))) (fun q => Ok.lt (by omega) (fun q2 => Ok.ret (Ok.mono (no (by omega)) (fun z hz => ?_))) (fun q2 => ?_))
  · exact ⟨hz.1, hz.2.1, hz.2.2.1, hz.2.2.2.1, hz.2.2.2.2.1, hz.2.2.2.2.2, Or.inr ⟨rfl, rfl, rfl, rfl, rfl, rfl, rfl, rfl, rfl, rfl, rfl⟩⟩
  · exact ⟨hz.1, hz.2.1, hz.2.2.1, hz.2.2.2.1, hz.2.2.2.2.1, hz.2.2.2.2.2, Or.inr ⟨rfl, rfl, rfl, rfl, rfl, rfl, rfl, rfl, rfl, rfl, rfl⟩⟩
  · obtain ⟨e, he⟩ : ∃ e : Nat, x1 = (e : Int) := ⟨x1.toNat, by omega⟩
    subst he
    have heL : e ≤ L := by omega
    have hTe := hT.sub heL
    unfold fX7_readText
    have hread : ∀ sv' : Nat → Int, Ok ((fX7_begin N (L : Int) fa pl ren rat rw rh rf rcu rsk rwe rse rto rwt (e : Int)).bind fun r1 => ((fX7_skipBlanks N r1.2.2.2.1 tx r1.2.2.2.2.1).bind fun r2 => (fX7_readText_L11 N tx (e : Int) (fX7_readText_j50 N tx (e : Int)) N 0 r1.1 r1.2.1 r1.2.2.1 r1.2.2.2.1 r2 rnb rna r1.2.2.2.2.2.1 r1.2.2.2.2.2.2.1 r1.2.2.2.2.2.2.2.1 r1.2.2.2.2.2.2.2.2.1 r1.2.2.2.2.2.2.2.2.2.1 r1.2.2.2.2.2.2.2.2.2.2.1 r1.2.2.2.2.2.2.2.2.2.2.2.1 r1.2.2.2.2.2.2.2.2.2.2.2.2.1 r1.2.2.2.2.2.2.2.2.2.2.2.2.2 rd0))) (fun r => Ok (fX12_tell_j84 N ty (e : Int) ym 0 0 (e : Int) 0 0 (-1) 0 0 ra s sv') (fun q => TxP e sv' ym r q)) := by
      intro sv'
      refine Ok.bind (begin_ok (by omega)) (fun r1 h1 => ?_)
      obtain ⟨g0, g1, g2, g3, g4, g5, g6, g7, g8, g9, g10, g11, g12, g13⟩ := h1
      rw [g0, g1, g2, g3, g4, g5, g6, g7]
      refine Ok.bind (skipBlanks_ok (a := 0) hTe (by omega) (by omega) (by omega)) (fun r2 h2 => ?_)
      rw [h2]
      obtain ⟨s0, es0, k0, k1, k2, k3, k4, k5, k6⟩ := plain_ok (N := N) (s := s) hN
      have hv0 : RV rd0 r1.2.2.2.2.2.2.2.2.1 r1.2.2.2.2.2.2.2.2.2.1 r1.2.2.2.2.2.2.2.2.2.2.2.1 r1.2.2.2.2.2.2.2.2.2.2.1 4 4 0 := by
        refine ⟨by omega, by omega, by omega, fun t p ht => by omega, fun t ht => Or.inl (g8 t ht), fun t ht => Or.inl (g9 t ht), fun t _ ht => ⟨g8 t ht, g9 t ht⟩, fun k hk => ?_, fun k hk => ?_⟩
        · rw [g11 k hk]; exact us_b2 hk
        · rw [g10 k hk]; omega
      have hs0 : SR s0 rd0 r1.2.2.2.2.2.2.2.2.1 r1.2.2.2.2.2.2.2.2.2.1 r1.2.2.2.2.2.2.2.2.2.2.2.1 r1.2.2.2.2.2.2.2.2.2.2.1 4 4 0 := by
        refine ⟨k0, k1, k2, fun k hk => ?_, fun k hk => ?_, ?_, ?_, fun t p ht => by omega⟩
        · rw [k3 k hk, g11 k hk]
        · rw [k4 k hk, g10 k hk]
        · rw [k5]; exact bits_0 g8
        · rw [k6]; exact bits_0 g9
      have hw0 : WtR r1.2.2.2.2.2.2.2.2.2.2.2.2.2 0 := ⟨fun _ => 0, bits_0 (fun _ _ => rfl), fun k hk => g13 k hk⟩
      have ht0 : ToR r1.2.2.2.2.2.2.2.2.2.2.2.2.1 0 (r1.2.2.2.2.2.2.2.2.2.2.2.1 5) := by
        refine ⟨fun _ => 0, bits_0 (fun _ _ => rfl), g12 6 (by omega), g12 0 (by omega), g12 1 (by omega), g12 2 (by omega), g12 3 (by omega), g12 4 (by omega), Or.inl ⟨g12 5 (by omega), ?_, rfl, rfl⟩⟩
        rw [g11 5 (by omega)]; rfl
      refine Ok.mono (text_loop (sv := sv') (ym := ym) (th := 0) (sz := 0) hTe (by omega) hN N N 0 0 rnb rna 0 0 ra rd0 _ _ _ _ 4 4 0 _ _ s0 (by omega) (by omega) (by omega) (by omega) hv0 hs0 hw0 ht0) (fun r hr => ?_)
      unfold fX12_tell_j84
      exact Ok.bind (P := fun x => x = s0) ⟨s0, es0, rfl⟩ (fun r6 h6 => by rw [h6]; exact hr)
    obtain ⟨r3, e3, -⟩ := hread s
    rw [e3]
    have hq : ∀ {P : Int × Int × Int × Int × Int × Int × Int × Int × Int × Int × Int × (Nat → Int) × (Nat → Int) → Prop}, (∀ sv' q, (∀ j, j < 1551 → sv' j = s j) → TxP e sv' ym r3 q → P q) → Ok ((fX12_isIn N (e : Int) 0 (L : Int)).bind fun r1 => (if iZ r1 = iZ 0 then (some (((-3 : Int), ym, (0 : Int), (L : Int), sz, sp, fa, pl, sn, sf, ra, s, sv))) else (fX12_tell_L59 N ty (e : Int) (fX12_tell_j84 N ty (e : Int)) N 0 ym 0 0 (e : Int) 0 0 (-1) 0 0 ra s sv))) P := by
      intro P hP
      refine Ok.bind (isIn_t (by omega) (by omega)) (fun r1 h1 => Ok.eqn (by omega) (save_ok hN (fun sv' hsv => ?_)))
      obtain ⟨r3', e3', h3'⟩ := hread sv'
      have : r3' = r3 := Option.some.inj (e3'.symm.trans e3)
      rw [this] at h3'
      exact Ok.mono h3' (fun q hq => hP sv' q hsv hq)
    show Ok (if iZ r3.2.1 = iZ 0 then _ else _) _
    have hb3 : 0 ≤ r3.2.1 ∧ r3.2.1 ≤ 10 := by
      obtain ⟨q, -, hq2⟩ := hq (P := fun _ => 0 ≤ r3.2.1 ∧ r3.2.1 ≤ 10) (fun sv' q _ h => by
        rcases h.2.2.2.2 with z | z
        · omega
        · omega)
      exact hq2
    refine Ok.eq (by omega) (fun y => ?_) (fun y => ?_)
    · have hfilm : ∃ W H F : Nat, r3.2.2.2.2.2.2.2.1 = (W : Int) ∧ r3.2.2.2.2.2.2.2.2.1 = (H : Int) ∧ r3.2.2.2.2.2.2.2.2.2.1 = (F : Int) ∧ F ≤ 24 ∧ W * H ≤ 64 := by
        obtain ⟨q, -, hq2⟩ := hq (P := fun _ => ∃ W H F : Nat, r3.2.2.2.2.2.2.2.1 = (W : Int) ∧ r3.2.2.2.2.2.2.2.2.1 = (H : Int) ∧ r3.2.2.2.2.2.2.2.2.2.1 = (F : Int) ∧ F ≤ 24 ∧ W * H ≤ 64) (fun sv' q _ h => by
          rcases h.2.2.2.2 with z | ⟨z1, z2, W2, H2, F2, z3, z4, z5, z6, z7, z8⟩
          · omega
          · exact ⟨W2, H2, F2, z3, z4, z5, z7.2.2.1, (size_b z7.1 z7.2.1).2⟩)
        exact hq2
      obtain ⟨W2, H2, F2, f1, f2, f3, f4, f5⟩ := hfilm
      rw [f1, f2, f3]
      refine Ok.bind (copy_ok f4 f5) (fun r5 h5 => ?_)
      unfold fX11_forgetDerived fX1_forget
      refine Ok.bind (Ok.ret (P := fun r => r = ((0 : Int), (0 : Int), (0 : Int))) rfl) (fun r6 h6 => ?_)
      subst h6
      refine Ok.ret (hq (fun sv' q hsv h => ?_))
      obtain ⟨x1, x2, x3, x4, x5⟩ := h
      rcases x5 with z | ⟨z1, z2, W3, H3, F3, z3, z4, z5, z6, z7, z8⟩
      · omega
      · have eW : W3 = W2 := by omega
        have eH : H3 = H2 := by omega
        have eF : F3 = F2 := by omega
        subst eW eH eF
        refine ⟨?_, ⟨0, by omega, x1, x2, fun k hk => by omega⟩, x3, x4, ⟨W3, H3, F3, h5.1, h5.2.1, h5.2.2.1, z7.eq h5.2.2.2, z8.eq h5.2.2.2⟩, ⟨0, by omega, rfl, z2, fun j hj => by omega⟩, Or.inl ⟨rfl, rfl, rfl⟩⟩
        show r5.2.2.1 = q.1
        rw [h5.2.2.1, z6]
    · refine Ok.ret (hq (fun sv' q hsv h => ?_))
      obtain ⟨x1, x2, x3, x4, x5⟩ := h
      rcases x5 with ⟨z1, z2, z3, z4, z5⟩ | z
      · refine ⟨?_, ⟨0, by omega, x1, x2, fun k hk => by omega⟩, x3, x4, ⟨W, H, F, rfl, rfl, rfl, hv, hs.row hF hS.2 (fun k hk => by rw [z5 k hk, hsv k hk])⟩, ?_, Or.inr ⟨rfl, rfl, rfl, rfl, rfl, rfl, rfl, rfl, rfl, rfl, rfl⟩⟩
        · show -30 - r3.2.1 = q.1
          rw [z3, x3]
        · show AcJ fd fc fk fs fw fx fy fz acts am q.2.1
          rw [z4]; exact ha
      · omega
end QJ
