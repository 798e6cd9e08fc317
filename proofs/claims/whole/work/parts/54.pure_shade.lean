/-! shade -/
section QK
theorem mevens_at {N t p : Nat} {d cu sk se we : Nat → Int} {W H F : Nat} {s me be c tg tb og ec ev : Nat → Int} {wm : Int} (hs : SR s d cu sk se we W H F) (hv : FV d cu sk se we W H F) (ht : t < F) (hp : p < W * H) (hN : 100 < N) : Ok (fX12_lays N s me c be) (fun r => Ok (fX12_evens N s r.2.2 r.2.1 wm tg tb og ec ev t) (fun q => q.2.2.2.2.2 (64 * t + p) = EV d cu sk se we W H F (64 * t + p))) := by
  refine Ok.mono (mlays_ok hs hv hN) (fun r hr => Ok.mono (evens_ok hs hv hr ht hN) (fun q hq => ?_))
  exact hq.1.2.2.2.2 p hp
theorem shade_j {N : Nat} {d cu sk se we : Nat → Int} {W H F : Nat} {lk en many sz : Int} {c so fo su tg tb dt ac ar no og tc : Nat → Int} {th wm : Int} {me mc be mt mb mo ec ev : Nat → Int} {s : Nat → Int} {x1 x2 x3 : Int} (hs : SR s d cu sk se we W H F) (hv : FV d cu sk se we W H F) (hN : 400 < N) (hl : LkI d cu sk se we W H F lk c many so fo) (he : EnI d cu sk se we W H F en tg tb dt tc) (hx1 : -2147483648 ≤ x1 ∧ x1 < 2147483648) (hx2 : -2147483648 ≤ x2 ∧ x2 < 2147483648) (hx3 : x3 = 0 ∨ x3 = 1) : Ok (fX11_shade N W H F d cu se sk we lk en c many so fo su tg tb dt sz ac ar no og tc x1 x2 x3) (fun r => EvT d cu sk se we W H F r.2.2 ∧ Ok (fX12_shade N s th wm me mc be mt mb mo ec ev x1 x2 x3) (fun q => q.2.1 = r.1 ∧ (r.1 = 0 ∨ r.1 = 1) ∧ (r.1 = 0 → r.2.1 = q.1 ∧ 0 ≤ q.1 ∧ q.1 ≤ 15))) := by
  have hF := hv.2.2.1
  have hS := size_b hv.1 hv.2.1
  unfold fX11_shade fX12_shade
  by_cases f1 : 0 ≤ x1 ∧ x1 < F
  · refine Ok.bind (hasFrame_t hF f1) (fun r1 h1 => Ok.eqn (by omega) ?_)
    by_cases f2 : 0 ≤ x2 ∧ x2 < ((W * H : Nat) : Int)
    · refine Ok.bind (hasPlace_t hS.2 f2) (fun r3 h3 => Ok.eqn (by omega) ?_)
      obtain ⟨t, rfl⟩ : ∃ t : Nat, x1 = (t : Int) := ⟨x1.toNat, by omega⟩
      obtain ⟨p, rfl⟩ : ∃ p : Nat, x2 = (p : Int) := ⟨x2.toNat, by omega⟩
      have ht : t < F := by omega
      have hp : p < W * H := by omega
      have e1 : ((t : Int) * 64 + (p : Int)).toNat = 64 * t + p := by omega
      have e2 : (64 * (t : Int) + (p : Int)).toNat = 64 * t + p := by omega
      rw [e1]
      rcases hx3 with rfl | rfl
      · refine Ok.eqp rfl (Ok.gd (by omega) (Ok.ret ⟨⟨hl, he⟩, ?_⟩))
        refine Ok.bind (isFrame_t hs.2.2.1 hF f1) (fun a1 b1 => Ok.eqn (by omega) (Ok.bind (isPlace_t hs hS.2 f2) (fun a3 b3 => Ok.eqn (by omega) ?_)))
        unfold fX12_shade_j22
        refine Ok.eqn (by omega) (Ok.eqp rfl (Ok.bind (mdotAt_ok hs hv ht hp) (fun a8 b8 => Ok.ret ⟨rfl, Or.inl rfl, fun _ => ⟨b8.symm, ?_⟩⟩)))
        show 0 ≤ a8 ∧ a8 ≤ 15
        rw [b8]
        exact hv.2.2.2.1 t p ht hp
      · refine Ok.eqn (by omega) (Ok.bind (evened_ok hv hN hl he) (fun r7 h7 => Ok.gd (by omega) (Ok.ret ⟨⟨Or.inr ⟨h7.1, h7.2.1⟩, Or.inr h7.2.2⟩, ?_⟩)))
        refine Ok.bind (isFrame_t hs.2.2.1 hF f1) (fun a1 b1 => Ok.eqn (by omega) (Ok.bind (isPlace_t hs hS.2 f2) (fun a3 b3 => Ok.eqn (by omega) ?_)))
        unfold fX12_shade_j22
        rw [e2]
        refine Ok.eqn (by omega) (Ok.eqn (by omega) (Ok.bind (mevens_at hs hv ht hp (by omega)) (fun a5 b5 => Ok.bind b5 (fun a6 b6 => Ok.gd (by omega) (Ok.ret ⟨rfl, Or.inl rfl, fun _ => ⟨?_, ?_⟩⟩)))))
        · show r7.2.2.2.2.2.2.2.2.2.1 (64 * t + p) = a6.2.2.2.2.2 (64 * t + p)
          rw [b6]
          exact h7.2.2.2.2.2.1 t p ht hp
        · show 0 ≤ a6.2.2.2.2.2 (64 * t + p) ∧ a6.2.2.2.2.2 (64 * t + p) ≤ 15
          rw [b6]
          exact hv.EV_b t p ht hp
    · refine Ok.bind (hasPlace_f hS.2 hx2 f2) (fun r3 h3 => Ok.eqp h3 (Ok.ret ⟨⟨hl, he⟩, ?_⟩))
      refine Ok.bind (isFrame_t hs.2.2.1 hF f1) (fun a1 b1 => Ok.eqn (by omega) (Ok.bind (isPlace_f hs hS.2 hx2 f2) (fun a3 b3 => Ok.eqp b3 ?_)))
      unfold fX12_shade_j22
      exact Ok.eqp rfl (Ok.ret ⟨rfl, Or.inr rfl, fun z => absurd z (by show (1 : Int) ≠ 0; omega)⟩)
  · refine Ok.bind (hasFrame_f hF hx1 f1) (fun r3 h3 => Ok.eqp h3 (Ok.ret ⟨⟨hl, he⟩, ?_⟩))
    refine Ok.bind (isFrame_f hs.2.2.1 hF hx1 f1) (fun a3 b3 => Ok.eqp b3 ?_)
    unfold fX12_shade_j22
    exact Ok.eqp rfl (Ok.ret ⟨rfl, Or.inr rfl, fun z => absurd z (by show (1 : Int) ≠ 0; omega)⟩)
end QK
