/-! The order of dots: the class sorts, the reference counts. -/
section PC
def bsS (d : Nat → Int) (S t s : Nat) : Int := if s = 0 then 0 else cumS d S t (s - 1)
theorem rank1' {d : Nat → Int} {S t p s : Nat} (hS : S ≤ 64) (hd : DotB d S t) (hp : p < S) (hs : d (64 * t + p) = (s : Int)) : rcS (k1S d t) S (k1S d t p) = bsS d S t s + cntS d p t s := by
  rw [rank1 hS hd hp, hs, Int.toNat_natCast]
  unfold bsS
  by_cases z : s = 0
  · rw [if_pos z, if_pos (by omega)]
  · rw [if_neg z, if_neg (by omega)]
theorem byShade_ok {N S t : Nat} {c d no g0 : Nat → Int} (hS : S ≤ 64) (ht : t < 24) (hN : 70 < N) (hd : DotB d S t) (hc : ∀ v, v < 16 → c (16 * t + v) = cumS d S t v) : Ok (fX6_orderByShade N S c d no g0 t) (fun r => ∀ p, p < S → r.2 (rcS (k1S d t) S (k1S d t p)).toNat = (p : Int)) := by
  unfold fX6_orderByShade
  refine Ok.gd (by omega) ?_
  refine Ok.loop (fun m i g => fX6_orderByShade_L10 N S c d t (fX6_orderByShade_j44 N S c d t) m ((i + 1 : Nat) : Int) g g0) 15 (fun i g => ∀ s, s < i + 1 → g s = bsS d S t s) _ ?_ ?_ N 0 (uZ no 0 0) (by omega) (by omega) (fun s hs => by rw [show s = 0 by omega, uZ_at]; rfl)
  · intro m i g hi hI ih
    show Ok (fX6_orderByShade_b10 N S c d t _ _ ((i + 1 : Nat) : Int) g g0) _
    unfold fX6_orderByShade_b10
    have e1 : ((t : Int) * 16 + ((i + 1 : Nat) : Int) - 1).toNat = 16 * t + i := by omega
    rw [e1, Int.toNat_natCast]
    repeat (first | refine Ok.gd (by omega) ?_ | refine Ok.ltp (by omega) ?_ | refine Ok.ltn (by omega) ?_ | refine Ok.eqp (by omega) ?_ | refine Ok.eqn (by omega) ?_)
    refine ih _ (fun s hs => ?_)
    by_cases q : s = i + 1
    · rw [q, uZ_at, hc i (by omega)]; rfl
    · rw [uZ_ne q]; exact hI s (by omega)
  · intro m g hI
    show Ok (fX6_orderByShade_b10 N S c d t _ _ ((15 + 1 : Nat) : Int) g g0) _
    unfold fX6_orderByShade_b10 fX6_orderByShade_j44
    refine Ok.ltn (by omega) ?_
    refine Ok.loop (fun m i (x : (Nat → Int) × (Nat → Int)) => fX6_orderByShade_L47 N S c d t (fX6_orderByShade_j101 N S c d t) m (i : Int) x.1 x.2) S (fun i x => (∀ s, s < 16 → x.1 s = bsS d S t s + cntS d i t s) ∧ ∀ p, p < i → x.2 (rcS (k1S d t) S (k1S d t p)).toNat = (p : Int)) _ ?_ ?_ N 0 (g, g0) (by omega) (by omega) ⟨fun s hs => by show g s = _ + 0; rw [hI s (by omega)]; omega, fun p hp => by omega⟩
    · intro m i x hi hI ih
      show Ok (fX6_orderByShade_b47 N S c d t _ _ (i : Int) x.1 x.2) _
      unfold fX6_orderByShade_b47
      have e1 : ((t : Int) * 64 + (i : Int)).toNat = 64 * t + i := by omega
      have h0 := hd i hi
      obtain ⟨s, hs⟩ : ∃ s : Nat, d (64 * t + i) = (s : Int) := ⟨(d (64 * t + i)).toNat, by omega⟩
      have hr := rank1' hS hd hi hs
      have hr2 := rcS_lt (k := k1S d t) hi
      have hr3 := rcS_b (k1S d t) S (k1S d t i)
      have hx := hI.1 s (by omega)
      rw [e1, hs, Int.toNat_natCast, hx, ← hr]
      repeat (first | refine Ok.gd (by omega) ?_ | refine Ok.ltp (by omega) ?_ | refine Ok.ltn (by omega) ?_ | refine Ok.eqp (by omega) ?_ | refine Ok.eqn (by omega) ?_)
      refine ih (_, _) ⟨fun s2 hs2 => ?_, fun p hp => ?_⟩
      · show uZ _ _ _ s2 = _
        have e3 : cntS d (i + 1) t s2 = cntS d i t s2 + if d (64 * t + i) = (s2 : Int) then 1 else 0 := rfl
        rw [e3, hs]
        by_cases q : s2 = s
        · rw [q, uZ_at, if_pos rfl, hr]; omega
        · rw [uZ_ne q, if_neg (by omega), hI.1 s2 hs2]; omega
      · show uZ _ _ _ _ = _
        by_cases q : p = i
        · rw [q, uZ_at]
        · rw [uZ_ne (fun z => q ?_)]
          · exact hI.2 p (by omega)
          · have hp3 := rcS_b (k1S d t) S (k1S d t p)
            exact k1_inj (d := d) (t := t) hS (show p < S by omega) hi (rank_inj (k := k1S d t) (show p < S by omega) hi (by omega))
    · intro m x hI
      show Ok (fX6_orderByShade_b47 N S c d t _ _ (S : Int) x.1 x.2) _
      unfold fX6_orderByShade_b47 fX6_orderByShade_j101
      exact Ok.ltn (by omega) (Ok.ret hI.2)
/-- an order of places, by a key that rises -/
def OrdR (k : Nat → Int) (S : Nat) (g : Nat → Int) : Prop := ∃ o : Nat → Nat, (∀ j, j < S → g j = (o j : Int) ∧ o j < S) ∧ ∀ i j, i < j → j < S → k (o i) < k (o j)
theorem ord1 {d g : Nat → Int} {S t : Nat} (hS : S ≤ 64) (h : ∀ p, p < S → g (rcS (k1S d t) S (k1S d t p)).toNat = (p : Int)) : OrdR (k1S d t) S g := by
  have hs := rcS_surj (k := k1S d t) S (fun p q hp hq => k1_inj hS hp hq)
  have hf : ∀ r : Nat, ∃ p, r < S → p < S ∧ rcS (k1S d t) S (k1S d t p) = (r : Int) ∧ g r = (p : Int) := by
    intro r
    by_cases q : r < S
    · obtain ⟨p, h1, h2⟩ := hs r q
      refine ⟨p, fun _ => ⟨h1, h2, ?_⟩⟩
      have := h p h1
      rw [h2, Int.toNat_natCast] at this; exact this
    · exact ⟨0, fun z => absurd z q⟩
  refine ⟨fun r => Classical.choose (hf r), fun j hj => ?_, fun i j hij hj => ?_⟩
  · have := Classical.choose_spec (hf j) hj
    exact ⟨this.2.2, this.1⟩
  · have h1 := Classical.choose_spec (hf i) (by omega)
    have h2 := Classical.choose_spec (hf j) hj
    rcases Int.lt_or_le (k1S d t (Classical.choose (hf i))) (k1S d t (Classical.choose (hf j))) with z | z
    · exact z
    · have := rcS_mono (k := k1S d t) (S := S) z
      omega
theorem ky_lt1 {d : Nat → Int} {W S t p q : Nat} (hS : S ≤ 64) (hp : p < S) (hq : q < S) (rp : 0 ≤ rnS d W S t p ∧ rnS d W S t p ≤ 120) (rq : 0 ≤ rnS d W S t q ∧ rnS d W S t q ≤ 120) (h : k1S d t q < k1S d t p) (h2 : ¬ (rnS d W S t p < rnS d W S t q ∧ d (64 * t + q) = d (64 * t + p))) : kyR d W S t q < kyR d W S t p := by
  unfold k1S at h
  unfold kyR
  omega
theorem ky_lt2 {d : Nat → Int} {W S t p q : Nat} (hS : S ≤ 64) (hp : p < S) (hq : q < S) (h : rnS d W S t p < rnS d W S t q) (h2 : d (64 * t + q) = d (64 * t + p)) : kyR d W S t p < kyR d W S t q := by
  unfold kyR
  omega
def uN (f : Nat → Nat) (k v : Nat) : Nat → Nat := fun j => if j = k then v else f j
theorem uN_at (f : Nat → Nat) (k v : Nat) : uN f k v k = v := if_pos rfl
theorem uN_ne {f : Nat → Nat} {k v j : Nat} (h : j ≠ k) : uN f k v j = f j := if_neg h
theorem within_ok {N S W t : Nat} {d ar g0 : Nat → Int} (hS : S ≤ 64) (h1S : 1 ≤ S) (ht : t < 24) (hN : 70 < N) (hd : DotB d S t) (har : ∀ p, p < S → ar p = rnS d W S t p) (hrn : ∀ p, p < S → 0 ≤ rnS d W S t p ∧ rnS d W S t p ≤ 120) (h0 : OrdR (k1S d t) S g0) : Ok (fX6_orderWithinShades N S d ar g0 t) (fun g => OrdR (kyR d W S t) S g) := by
  obtain ⟨o0, ho, hk⟩ := h0
  unfold fX6_orderWithinShades
  refine Ok.loop (fun m i g => fX6_orderWithinShades_L2 N S d ar t (fX6_orderWithinShades_j125 N S d ar t) m ((i + 1 : Nat) : Int) g) (S - 1) (fun r g => ∃ o : Nat → Nat, (∀ j, j < S → g j = (o j : Int) ∧ o j < S) ∧ (∀ i j, i < j → j < r + 1 → kyR d W S t (o i) < kyR d W S t (o j)) ∧ (∀ j, r + 1 ≤ j → j < S → o j = o0 j) ∧ (∀ i j, i < r + 1 → r + 1 ≤ j → j < S → k1S d t (o i) < k1S d t (o0 j))) _ ?_ ?_ N 0 g0 (by omega) (by omega) ⟨o0, ho, fun i j h1 h2 => by omega, fun j _ _ => rfl, fun i j h1 h2 h3 => hk i j (by omega) h3⟩
  · intro m r0 g hr hI ih
    obtain ⟨r, hre⟩ : ∃ r, r = r0 + 1 := ⟨_, rfl⟩
    rw [← hre] at hI
    obtain ⟨o, h1, h2, h3, h4⟩ := hI
    show Ok (fX6_orderWithinShades_b2 N S d ar t _ _ ((r0 + 1 : Nat) : Int) g) _
    rw [← hre]
    unfold fX6_orderWithinShades_b2
    obtain ⟨P, hP⟩ : ∃ P, P = o0 r := ⟨_, rfl⟩
    have hPS : P < S := by rw [hP]; exact (ho r (by omega)).2
    have hgr : g r = (P : Int) := by rw [(h1 r (by omega)).1, h3 r (by omega) (by omega), hP]
    have e1 : ((t : Int) * 64 + (P : Int)).toNat = 64 * t + P := by omega
    have hdP := hd P hPS
    rw [Int.toNat_natCast, hgr, e1]
    repeat (first | refine Ok.gd (by omega) ?_ | refine Ok.ltp (by omega) ?_ | refine Ok.ltn (by omega) ?_ | refine Ok.eqp (by omega) ?_ | refine Ok.eqn (by omega) ?_)
    have done : ∀ (to : Nat) (g : Nat → Int) (o : Nat → Nat), to ≤ r → (∀ j, j < S → j ≠ to → g j = (o j : Int) ∧ o j < S) → (∀ i j, i < j → j ≤ r → i ≠ to → j ≠ to → kyR d W S t (o i) < kyR d W S t (o j)) → (∀ j, to < j → j ≤ r → kyR d W S t P < kyR d W S t (o j)) → (∀ i j, i ≤ r → i ≠ to → r ≤ j → j < S → k1S d t (o i) < k1S d t (o0 j)) → (∀ j, r < j → j < S → o j = o0 j) → (∀ j, j < to → kyR d W S t (o j) < kyR d W S t P) → Ok (fX6_orderWithinShades_j110 N S d ar t (fX6_orderWithinShades_L2 N S d ar t (fX6_orderWithinShades_j125 N S d ar t) m) (fX6_orderWithinShades_j125 N S d ar t) (r : Int) (P : Int) (to : Int) g) (fun g => OrdR (kyR d W S t) S g) := by
      intro to g o hto p1 p2 p3 p4 p5 p6
      unfold fX6_orderWithinShades_j110
      rw [Int.toNat_natCast]
      repeat (first | refine Ok.gd (by omega) ?_ | refine Ok.ltp (by omega) ?_ | refine Ok.ltn (by omega) ?_ | refine Ok.eqp (by omega) ?_ | refine Ok.eqn (by omega) ?_)
      have e9 : (r : Int) + 1 = ((r0 + 1 + 1 : Nat) : Int) := by omega
      rw [e9]
      refine ih _ ⟨uN o to P, fun j hj => ?_, fun i j hij hj => ?_, fun j h8 h9 => ?_, fun i j h7 h8 h9 => ?_⟩
      · by_cases q : j = to
        · rw [q, uZ_at, uN_at]; exact ⟨rfl, hPS⟩
        · rw [uZ_ne q, uN_ne q]; exact p1 j hj q
      · by_cases q : i = to
        · rw [q, uN_at, uN_ne (by omega)]; exact p3 j (by omega) (by omega)
        · by_cases q2 : j = to
          · rw [q2, uN_at, uN_ne (by omega)]; exact p6 i (by omega)
          · rw [uN_ne q, uN_ne q2]; exact p2 i j hij (by omega) q q2
      · rw [uN_ne (by omega)]; exact p5 j (by omega) h9
      · by_cases q : i = to
        · rw [q, uN_at, hP]; exact hk r j (by omega) h9
        · rw [uN_ne q]; exact p4 i j (by omega) q (by omega) h9
    refine Ok.loop (fun n i g => fX6_orderWithinShades_L35 N S d ar t (fX6_orderWithinShades_j110 N S d ar t (fX6_orderWithinShades_L2 N S d ar t (fX6_orderWithinShades_j125 N S d ar t) m) (fX6_orderWithinShades_j125 N S d ar t)) n (r : Int) (P : Int) (d (64 * t + P)) ((r - i : Nat) : Int) g) r (fun i g => ∃ o : Nat → Nat, (∀ j, j < S → j ≠ r - i → g j = (o j : Int) ∧ o j < S) ∧ (∀ i2 j, i2 < j → j ≤ r → i2 ≠ r - i → j ≠ r - i → kyR d W S t (o i2) < kyR d W S t (o j)) ∧ (∀ j, r - i < j → j ≤ r → kyR d W S t P < kyR d W S t (o j)) ∧ (∀ i2 j, i2 ≤ r → i2 ≠ r - i → r ≤ j → j < S → k1S d t (o i2) < k1S d t (o0 j)) ∧ (∀ j, r < j → j < S → o j = o0 j)) _ ?_ ?_ N 0 g (by omega) (by omega) ⟨o, fun j hj _ => h1 j hj, fun i j a1 a2 a3 a4 => h2 i j a1 (by omega), fun j a1 a2 => by omega, fun i j a1 a2 a3 a4 => h4 i j (by omega) a3 a4, fun j a1 a2 => h3 j (by omega) a2⟩
    · intro n i g2 hi hI2 ih2
      obtain ⟨o2, p1, p2, p3, p4, p5⟩ := hI2
      obtain ⟨to, hto⟩ : ∃ to, to + 1 = r - i := ⟨r - i - 1, by omega⟩
      show Ok (fX6_orderWithinShades_b35 N S d ar t _ _ (r : Int) (P : Int) (d (64 * t + P)) ((r - i : Nat) : Int) g2) _
      rw [← hto] at p1 p2 p3 p4 ⊢
      unfold fX6_orderWithinShades_b35
      obtain ⟨E, hE⟩ : ∃ E, E = o2 to := ⟨_, rfl⟩
      have hg := p1 to (by omega) (by omega)
      rw [← hE] at hg
      have e2 : (((to + 1 : Nat) : Int) - 1).toNat = to := by omega
      have e3 : ((t : Int) * 64 + (E : Int)).toNat = 64 * t + E := by omega
      have hEd := hd E hg.2
      have hke : k1S d t E < k1S d t P := by rw [hE, hP]; exact p4 to r (by omega) (by omega) (by omega) (by omega)
      have rP := hrn P hPS
      have rE := hrn E hg.2
      have stop : ¬ (rnS d W S t P < rnS d W S t E ∧ d (64 * t + E) = d (64 * t + P)) → Ok (fX6_orderWithinShades_j110 N S d ar t (fX6_orderWithinShades_L2 N S d ar t (fX6_orderWithinShades_j125 N S d ar t) m) (fX6_orderWithinShades_j125 N S d ar t) (r : Int) (P : Int) ((to + 1 : Nat) : Int) g2) (fun g => OrdR (kyR d W S t) S g) := fun hn => by
        have hlt := ky_lt1 hS hPS hg.2 rP rE hke hn
        refine done (to + 1) g2 o2 (by omega) p1 p2 p3 p4 p5 (fun j hj => ?_)
        by_cases q : j = to
        · rw [q, ← hE]; exact hlt
        · have := p2 j to (by omega) (by omega) (by omega) (by omega)
          rw [← hE] at this; omega
      rw [e2, hg.1, e3, Int.toNat_natCast, Int.toNat_natCast, Int.toNat_natCast, har P hPS, har E hg.2]
      refine Ok.ltp (by omega) (Ok.gd (by omega) (Ok.gd (by omega) (Ok.gd (by omega) ?_)))
      refine Ok.lt (by omega) (fun q => ?_) (fun q => stop (fun z => by omega))
      refine Ok.gd (by omega) (Ok.gd (by omega) ?_)
      refine Ok.eq (by omega) (fun q2 => ?_) (fun q2 => stop (fun z => q2 z.2))
      refine Ok.gd (by omega) (Ok.gd (by omega) ?_)
      have hgt := ky_lt2 hS hPS hg.2 q q2
      have e4 : (((to + 1 : Nat) : Int) + (-1)) = ((r - (i + 1) : Nat) : Int) := by omega
      rw [e4]
      have e5 : r - (i + 1) = to := by omega
      refine ih2 _ ⟨uN o2 (to + 1) E, ?_⟩
      rw [e5]
      refine ⟨fun j hj hne => ?_, fun i2 j a1 a2 a3 a4 => ?_, fun j a1 a2 => ?_, fun i2 j a1 a2 a3 a4 => ?_, fun j a1 a2 => ?_⟩
      · by_cases z : j = to + 1
        · rw [z, uZ_at, uN_at]; exact ⟨rfl, hg.2⟩
        · rw [uZ_ne z, uN_ne z]; exact p1 j hj z
      · by_cases z : i2 = to + 1
        · rw [z, uN_at, uN_ne (by omega), hE]; exact p2 to j (by omega) (by omega) (by omega) (by omega)
        · by_cases z2 : j = to + 1
          · rw [z2, uN_at, uN_ne (by omega), hE]; exact p2 i2 to (by omega) (by omega) (by omega) (by omega)
          · rw [uN_ne z, uN_ne z2]; exact p2 i2 j a1 a2 z z2
      · by_cases z : j = to + 1
        · rw [z, uN_at]; exact hgt
        · rw [uN_ne z]; exact p3 j (by omega) a2
      · by_cases z : i2 = to + 1
        · rw [z, uN_at, hE]; exact p4 to j (by omega) (by omega) a3 a4
        · rw [uN_ne z]; exact p4 i2 j a1 z a3 a4
      · rw [uN_ne (by omega)]; exact p5 j a1 a2
    · intro n g2 hI2
      obtain ⟨o2, p1, p2, p3, p4, p5⟩ := hI2
      rw [Nat.sub_self] at p1 p2 p3 p4
      show Ok (fX6_orderWithinShades_b35 N S d ar t _ _ (r : Int) (P : Int) (d (64 * t + P)) ((r - r : Nat) : Int) g2) _
      rw [Nat.sub_self]
      unfold fX6_orderWithinShades_b35
      refine Ok.ltn (by omega) ?_
      exact done 0 g2 o2 (by omega) p1 p2 p3 p4 p5 (fun j hj => by omega)
  · intro m g hI
    obtain ⟨o, h1, h2, h3, h4⟩ := hI
    show Ok (fX6_orderWithinShades_b2 N S d ar t _ _ ((S - 1 + 1 : Nat) : Int) g) _
    unfold fX6_orderWithinShades_b2 fX6_orderWithinShades_j125
    refine Ok.ltn (by omega) (Ok.ret ⟨o, h1, fun i j a1 a2 => h2 i j a1 (by omega)⟩)
theorem fsize_ok {N W H : Nat} : Ok (fX2_size N W H) (fun r => r = ((W * H : Nat) : Int)) := by
  unfold fX2_size
  exact Ok.ret (Int.natCast_mul W H).symm
theorem order_ok {N W H t F : Nat} {d c ac ar no g0 : Nat → Int} {sz : Int} (hW : 1 ≤ W ∧ W ≤ 8) (hH : 1 ≤ H ∧ H ≤ 8) (ht : t < 24) (htF : t < F) (hN : 70 < N) (hd : DotB d (W * H) t) (hc : CR (CU d (W * H)) F c) : Ok (fX6_read N W H d c sz ac ar no g0 t) (fun r => r.1 = ((W * H : Nat) : Int) ∧ OrdR (kyR d W (W * H) t) (W * H) r.2.2.2.2) := by
  unfold fX6_read
  have hS := size_b hW hH
  refine Ok.bind fsize_ok (fun r1 hr1 => ?_)
  refine Ok.bind (across_ok hW hH ht hN) (fun r2 hr2 => ?_)
  rw [hr1]
  refine Ok.bind (around_ok hS.2 hW.2 ht hN hr2) (fun r3 hr3 => ?_)
  refine Ok.bind (byShade_ok hS.2 ht hN hd (fun v hv => by rw [hc t v htF hv, CU_at _ _ _ _ hv])) (fun r4 hr4 => ?_)
  refine Ok.bind (within_ok (W := W) hS.2 hS.1 ht hN hd hr3 (fun p hp => rnS_b hd hp) (ord1 hS.2 hr4)) (fun r5 hr5 => ?_)
  exact Ok.ret ⟨rfl, hr5⟩
theorem kyR_inj {d : Nat → Int} {W S t p q : Nat} (hS : S ≤ 64) (hp : p < S) (hq : q < S) (h : kyR d W S t p = kyR d W S t q) : p = q := by
  unfold kyR at h; omega
noncomputable def rkS (d : Nat → Int) (W S t p : Nat) : Int := rcS (kyR d W S t) S (kyR d W S t p)
theorem ofind_ok {N S W t p : Nat} {d g : Nat → Int} (hS : S ≤ 64) (hp : p < S) (hN : 70 < N) (hg : OrdR (kyR d W S t) S g) : Ok (fX6_find N S g p) (fun r => r = rkS d W S t p) := by
  obtain ⟨o, h1, h2⟩ := hg
  have hi := rank_idx (fun i hi => (h1 i hi).2) h2
  unfold fX6_find rkS
  have hb := rcS_b (kyR d W S t) S (kyR d W S t p)
  have hl := rcS_lt (k := kyR d W S t) hp
  obtain ⟨r, hr⟩ : ∃ r : Nat, rcS (kyR d W S t) S (kyR d W S t p) = (r : Int) := ⟨(rcS (kyR d W S t) S (kyR d W S t p)).toNat, by omega⟩
  rw [hr]
  have hor : o r = p := by
    have := hi r (by omega)
    rw [← hr] at this
    exact kyR_inj hS (h1 r (by omega)).2 hp (rank_inj (h1 r (by omega)).2 hp this)
  refine Ok.loop (fun m i (_ : Unit) => fX6_find_L2 N S g p (fX6_find_j28 N S g p) m (i : Int)) r (fun _ _ => True) _ ?_ ?_ N 0 () (by omega) (by omega) trivial
  · intro m i _ hlt _ ih
    show Ok (fX6_find_b2 N S g p _ _ (i : Int)) _
    unfold fX6_find_b2
    have hgi := h1 i (by omega)
    rw [Int.toNat_natCast, hgi.1]
    have hne : o i ≠ p := fun z => by
      have := hi i (by omega)
      rw [z, hr] at this; omega
    repeat (first | refine Ok.gd (by omega) ?_ | refine Ok.ltp (by omega) ?_ | refine Ok.ltn (by omega) ?_ | refine Ok.eqp (by omega) ?_ | refine Ok.eqn (by omega) ?_)
    exact ih () trivial
  · intro m _ _
    show Ok (fX6_find_b2 N S g p _ _ (r : Int)) _
    unfold fX6_find_b2
    have hgi := h1 r (by omega)
    rw [Int.toNat_natCast, hgi.1, hor]
    repeat (first | refine Ok.gd (by omega) ?_ | refine Ok.ltp (by omega) ?_ | refine Ok.ltn (by omega) ?_ | refine Ok.eqp (by omega) ?_ | refine Ok.eqn (by omega) ?_)
    exact Ok.ret rfl
/-! the reference -/
def cellS (d : Nat → Int) (W H t : Nat) (x y : Int) : Int := if 0 ≤ x ∧ x < W ∧ 0 ≤ y ∧ y < H then d (64 * t + W * y.toNat + x.toNat) else 0
def crow (d : Nat → Int) (W H t X : Nat) (y : Int) : Int := sI (fun j => cellS d W H t ((X : Int) - 1 + (j : Int)) y) 3
theorem crow_out {d : Nat → Int} {W H t X : Nat} {y : Int} (h : ¬ (0 ≤ y ∧ y < H)) : crow d W H t X y = 0 := sI_zero (fun k _ => if_neg (fun z => h ⟨z.2.2.1, z.2.2.2⟩))
theorem crow_in {d : Nat → Int} {W H t X y : Nat} (hX : X < W) (hy : y < H) : crow d W H t X (y : Int) = acS d W t (W * y + X) := by
  have em : (W * y + X) % W = X := by rw [Nat.mul_add_mod, Nat.mod_eq_of_lt hX]
  unfold acS
  rw [em]
  show 0 + cellS d W H t ((X : Int) - 1 + ((0 : Nat) : Int)) y + cellS d W H t ((X : Int) - 1 + ((1 : Nat) : Int)) y + cellS d W H t ((X : Int) - 1 + ((2 : Nat) : Int)) y = _
  have c1 : cellS d W H t ((X : Int) - 1 + ((1 : Nat) : Int)) y = d (64 * t + (W * y + X)) := by
    unfold cellS
    rw [if_pos (by omega), Int.toNat_natCast, show ((X : Int) - 1 + ((1 : Nat) : Int)).toNat = X by omega, Nat.add_assoc]
  have c0 : cellS d W H t ((X : Int) - 1 + ((0 : Nat) : Int)) y = if X = 0 then 0 else d (64 * t + (W * y + X) - 1) := by
    unfold cellS
    by_cases q : X = 0
    · rw [if_pos q, if_neg (by omega)]
    · rw [if_neg q, if_pos (by omega), Int.toNat_natCast, show 64 * t + W * y + ((X : Int) - 1 + ((0 : Nat) : Int)).toNat = 64 * t + (W * y + X) - 1 by omega]
  have c2 : cellS d W H t ((X : Int) - 1 + ((2 : Nat) : Int)) y = if X + 1 < W then d (64 * t + (W * y + X) + 1) else 0 := by
    unfold cellS
    by_cases q : X + 1 < W
    · rw [if_pos q, if_pos (by omega), Int.toNat_natCast, show 64 * t + W * y + ((X : Int) - 1 + ((2 : Nat) : Int)).toNat = 64 * t + (W * y + X) + 1 by omega]
    · rw [if_neg q, if_neg (by omega)]
  rw [c0, c1, c2]; omega
def cblk (d : Nat → Int) (W H t X Y : Nat) : Int := sI (fun j => crow d W H t X ((Y : Int) - 1 + (j : Int))) 3
theorem cblk_rn {d : Nat → Int} {W H t X Y : Nat} (hX : X < W) (hY : Y < H) : cblk d W H t X Y - d (64 * t + (W * Y + X)) = rnS d W (W * H) t (W * Y + X) := by
  unfold rnS
  have hm1 : 0 < Y → W * Y = W * (Y - 1) + W := fun h => by
    obtain ⟨k, rfl⟩ : ∃ k, Y = k + 1 := ⟨Y - 1, by omega⟩
    rw [Nat.mul_add, Nat.mul_one]; rfl
  have hm2 : W * (Y + 1) = W * Y + W := by rw [Nat.mul_add, Nat.mul_one]
  have hm3 : W * Y + W ≤ W * H := by rw [← hm2]; exact Nat.mul_le_mul_left W hY
  have hm4 : Y + 1 < H → W * Y + W + W ≤ W * H := fun h => by
    have := Nat.mul_le_mul_left W (show Y + 1 + 1 ≤ H from h)
    rw [Nat.mul_add, Nat.mul_one, hm2] at this; exact this
  show 0 + crow d W H t X ((Y : Int) - 1 + ((0 : Nat) : Int)) + crow d W H t X ((Y : Int) - 1 + ((1 : Nat) : Int)) + crow d W H t X ((Y : Int) - 1 + ((2 : Nat) : Int)) - _ = _
  have c1 : crow d W H t X ((Y : Int) - 1 + ((1 : Nat) : Int)) = acS d W t (W * Y + X) := by
    rw [show (Y : Int) - 1 + ((1 : Nat) : Int) = (Y : Int) by omega]; exact crow_in hX hY
  have c0 : crow d W H t X ((Y : Int) - 1 + ((0 : Nat) : Int)) = if W * Y + X < W then 0 else acS d W t (W * Y + X - W) := by
    by_cases q : Y = 0
    · rw [crow_out (by omega), if_pos (by rw [q, Nat.mul_zero]; omega)]
    · have := hm1 (by omega)
      rw [show (Y : Int) - 1 + ((0 : Nat) : Int) = ((Y - 1 : Nat) : Int) by omega, crow_in hX (by omega), if_neg (by omega), show W * Y + X - W = W * (Y - 1) + X by omega]
  have c2 : crow d W H t X ((Y : Int) - 1 + ((2 : Nat) : Int)) = if W * Y + X + W < W * H then acS d W t (W * Y + X + W) else 0 := by
    by_cases q : Y + 1 < H
    · have := hm4 q
      rw [show (Y : Int) - 1 + ((2 : Nat) : Int) = ((Y + 1 : Nat) : Int) by omega, crow_in hX q, if_pos (by omega), show W * Y + X + W = W * (Y + 1) + X by omega]
    · have hHY : H = Y + 1 := by omega
      rw [crow_out (by omega), if_neg (by rw [hHY, hm2]; omega)]
  rw [c0, c1, c2]; omega
theorem roundOf_ok {N t p : Nat} {d cu sk se we : Nat → Int} {W H F : Nat} {s : Nat → Int} (hs : SR s d cu sk se we W H F) (hv : FV d cu sk se we W H F) (ht : t < F) (hp : p < W * H) (hN : 40 < N) : Ok (fX12_roundOf N s t p) (fun r => r = rnS d W (W * H) t p) := by
  unfold fX12_roundOf
  have hW := hv.1
  have hH := hv.2.1
  have hS := size_b hW hH
  have s0 := hs.1
  have s1 := hs.2.1
  refine Ok.bind (mdotAt_ok hs hv ht hp) (fun r1 hr1 => ?_)
  rw [(show ((0 : Int)).toNat = 0 from rfl), s0]
  have hmod : mZ (p : Int) (W : Int) = ((p % W : Nat) : Int) := by rw [mZ_mod (by omega) (by omega)]; rfl
  have hdiv : dZ (p : Int) (W : Int) = ((p / W : Nat) : Int) := by rw [dZ_div (by omega) (by omega)]; rfl
  rw [hmod, hdiv]
  have hX : p % W < W := Nat.mod_lt p (by omega)
  have hY : p / W < H := Nat.div_lt_of_lt_mul hp
  have hpe := Nat.div_add_mod p W
  obtain ⟨X, hXe⟩ : ∃ X, X = p % W := ⟨_, rfl⟩
  obtain ⟨Y, hYe⟩ : ∃ Y, Y = p / W := ⟨_, rfl⟩
  rw [← hXe] at hX hpe
  rw [← hYe] at hY hpe
  rw [← hXe, ← hYe]
  have hnz : ¬ iZ (W : Int) = iZ 0 := fun z => by rw [iZ_eq (by omega) (by omega) (by omega) (by omega)] at z; omega
  refine Ok.gd (by omega) (Ok.gd hnz (Ok.gd (by omega) (Ok.gd hnz ?_)))
  have fin := cblk_rn (d := d) (t := t) hX hY
  rw [hpe, ← hr1] at fin
  have e00 : (Y : Int) - 1 = (Y : Int) - 1 + ((0 : Nat) : Int) := by omega
  rw [e00]
  refine Ok.loop (fun m i a => fX12_roundOf_L34 N s t p (fX12_roundOf_j128 N s t p) m a (X : Int) (Y : Int) ((Y : Int) - 1 + (i : Int))) 3 (fun i a => a = sI (fun j => crow d W H t X ((Y : Int) - 1 + (j : Int))) i - r1) _ ?_ ?_ N 0 (-r1) (by omega) (by omega) (by show _ = 0 - r1; omega)
  · intro m i a hi hI ih
    show Ok (fX12_roundOf_b34 N s t p _ _ a (X : Int) (Y : Int) ((Y : Int) - 1 + (i : Int))) _
    unfold fX12_roundOf_b34
    refine Ok.ltn (by omega) ?_
    obtain ⟨y, hy⟩ : ∃ y : Int, y = (Y : Int) - 1 + (i : Int) := ⟨_, rfl⟩
    rw [← hy]
    have e01 : (X : Int) - 1 = (X : Int) - 1 + ((0 : Nat) : Int) := by omega
    rw [e01]
    refine Ok.loop (fun n j b => fX12_roundOf_L49 N s t p (fX12_roundOf_j122 N s t p (fX12_roundOf_L34 N s t p (fX12_roundOf_j128 N s t p) m) (fX12_roundOf_j128 N s t p)) n b (X : Int) (Y : Int) y ((X : Int) - 1 + (j : Int))) 3 (fun j b => b = a + sI (fun j => cellS d W H t ((X : Int) - 1 + (j : Int)) y) j) _ ?_ ?_ N 0 a (by omega) (by omega) (by show _ = a + 0; omega)
    · intro n j b hj hI2 ih2
      show Ok (fX12_roundOf_b49 N s t p _ _ b (X : Int) (Y : Int) y ((X : Int) - 1 + (j : Int))) _
      unfold fX12_roundOf_b49
      have nx : ∀ b2, b2 = b + cellS d W H t ((X : Int) - 1 + (j : Int)) y → Ok (fX12_roundOf_L49 N s t p (fX12_roundOf_j122 N s t p (fX12_roundOf_L34 N s t p (fX12_roundOf_j128 N s t p) m) (fX12_roundOf_j128 N s t p)) n b2 (X : Int) (Y : Int) y ((X : Int) - 1 + (j : Int) + 1)) (fun r => r = rnS d W (W * H) t p) := fun b2 hb2 => by
        have e2 : (X : Int) - 1 + (j : Int) + 1 = (X : Int) - 1 + ((j + 1 : Nat) : Int) := by omega
        rw [e2]
        exact ih2 b2 (by rw [sI_succ, hb2, hI2, Int.add_assoc])
      refine Ok.ltn (by omega) (Ok.gd (by omega) ?_)
      rw [(show ((0 : Int)).toNat = 0 from rfl), (show ((1 : Int)).toNat = 1 from rfl), s0, s1, isIn_eq (by omega)]
      refine Ok.bind (Ok.ret (P := fun r => r = if 0 ≤ (X : Int) - 1 + (j : Int) ∧ (X : Int) - 1 + (j : Int) ≤ (W : Int) - 1 then 1 else 0) rfl) (fun r9 h9 => ?_)
      by_cases q : 0 ≤ (X : Int) - 1 + (j : Int) ∧ (X : Int) - 1 + (j : Int) ≤ (W : Int) - 1
      · rw [if_pos q] at h9
        refine Ok.eqn (by omega) (Ok.gd (by omega) ?_)
        rw [isIn_eq (by omega)]
        refine Ok.bind (Ok.ret (P := fun r => r = if 0 ≤ y ∧ y ≤ (H : Int) - 1 then 1 else 0) rfl) (fun r12 h12 => ?_)
        by_cases q2 : 0 ≤ y ∧ y ≤ (H : Int) - 1
        · rw [if_pos q2] at h12
          refine Ok.eqn (by omega) (Ok.gd (by omega) ?_)
          obtain ⟨x', hx'⟩ : ∃ x' : Nat, (X : Int) - 1 + (j : Int) = (x' : Int) := ⟨((X : Int) - 1 + (j : Int)).toNat, by omega⟩
          obtain ⟨y', hy'⟩ : ∃ y' : Nat, y = (y' : Int) := ⟨y.toNat, by omega⟩
          have hin : y' * W + x' < W * H := place_b (by omega) (by omega)
          have e5 : (W : Int) * y + ((X : Int) - 1 + (j : Int)) = ((y' * W + x' : Nat) : Int) := by rw [hx', hy', Int.natCast_add, Int.natCast_mul, Int.mul_comm]
          rw [e5]
          refine Ok.bind (mdotAt_ok hs hv ht hin) (fun r15 h15 => nx _ ?_)
          unfold cellS
          rw [if_pos (by omega), h15, hx', hy', Int.toNat_natCast, Int.toNat_natCast, Nat.mul_comm W y', Nat.add_assoc]
        · rw [if_neg q2] at h12
          refine Ok.eqp (by omega) (nx _ ?_)
          unfold cellS
          rw [if_neg (by omega), Int.add_zero]
      · rw [if_neg q] at h9
        refine Ok.eqp (by omega) (nx _ ?_)
        unfold cellS
        rw [if_neg (by omega), Int.add_zero]
    · intro n b hI2
      show Ok (fX12_roundOf_b49 N s t p _ _ b (X : Int) (Y : Int) y ((X : Int) - 1 + ((3 : Nat) : Int))) _
      unfold fX12_roundOf_b49 fX12_roundOf_j122
      refine Ok.ltp (by omega) ?_
      have e2 : y + 1 = (Y : Int) - 1 + ((i + 1 : Nat) : Int) := by omega
      rw [e2]
      refine ih b ?_
      rw [sI_succ, hI2, hI, hy]
      show _ + crow d W H t X _ = _
      omega
  · intro m a hI
    show Ok (fX12_roundOf_b34 N s t p _ _ a (X : Int) (Y : Int) ((Y : Int) - 1 + ((3 : Nat) : Int))) _
    unfold fX12_roundOf_b34 fX12_roundOf_j128
    refine Ok.ltp (by omega) (Ok.ret ?_)
    rw [hI, ← fin]; rfl
theorem laysOrders_ok {N t : Nat} {d cu sk se we : Nat → Int} {W H F : Nat} {s og : Nat → Int} (hs : SR s d cu sk se we W H F) (hv : FV d cu sk se we W H F) (ht : t < F) (hN : 70 < N) : Ok (fX12_laysOrders N s og t) (fun g => ∀ p, p < W * H → g p = kyR d W (W * H) t p) := by
  unfold fX12_laysOrders
  have hS := size_b hv.1 hv.2.1
  refine Ok.loop (fun m i g => fX12_laysOrders_L2 N s t (fX12_laysOrders_j44 N s t) m (i : Int) g) (W * H) (fun i g => ∀ p, p < i → g p = kyR d W (W * H) t p) _ ?_ ?_ N 0 og (by omega) (by omega) (fun p hp => by omega)
  · intro m i g hi hI ih
    show Ok (fX12_laysOrders_b2 N s t _ _ (i : Int) g) _
    unfold fX12_laysOrders_b2
    refine Ok.bind (mdots_ok hs) (fun r1 hr1 => ?_)
    rw [hr1]
    refine Ok.ltp (by omega) ?_
    refine Ok.bind (mdotAt_ok hs hv ht hi) (fun r3 hr3 => ?_)
    refine Ok.bind (roundOf_ok hs hv ht hi (by omega)) (fun r4 hr4 => Ok.gd (by omega) ?_)
    refine ih _ (fun p hp => ?_)
    rw [Int.toNat_natCast]
    by_cases q : p = i
    · rw [q, uZ_at, hr3, hr4]; rfl
    · rw [uZ_ne q]; exact hI p (by omega)
  · intro m g hI
    show Ok (fX12_laysOrders_b2 N s t _ _ ((W * H : Nat) : Int) g) _
    unfold fX12_laysOrders_b2 fX12_laysOrders_j44
    refine Ok.bind (mdots_ok hs) (fun r1 hr1 => ?_)
    rw [hr1]
    exact Ok.ltn (by omega) (Ok.ret hI)
theorem kyR_b {d : Nat → Int} {W H t p : Nat} (hS : W * H ≤ 64) (hd : DotB d (W * H) t) (hp : p < W * H) : 0 ≤ kyR d W (W * H) t p ∧ kyR d W (W * H) t p < 200000 := by
  have h1 := rnS_b hd hp
  have h2 := hd p hp
  unfold kyR; omega
theorem rankOf_ok {N t p : Nat} {d cu sk se we : Nat → Int} {W H F : Nat} {s og : Nat → Int} (hs : SR s d cu sk se we W H F) (hv : FV d cu sk se we W H F) (ht : t < F) (hp : p < W * H) (hN : 70 < N) (hog : ∀ p, p < W * H → og p = kyR d W (W * H) t p) : Ok (fX12_rankOf N s og p) (fun r => r = rkS d W (W * H) t p) := by
  unfold fX12_rankOf
  have hS := size_b hv.1 hv.2.1
  have hd : DotB d (W * H) t := fun p hp => hv.2.2.2.1 t p ht hp
  have hkp := kyR_b hS.2 hd hp
  refine Ok.loop (fun m i a => fX12_rankOf_L4 N s og p (fX12_rankOf_j41 N s og p) m a (i : Int)) (W * H) (fun i a => a = rcS (kyR d W (W * H) t) i (kyR d W (W * H) t p)) _ ?_ ?_ N 0 0 (by omega) (by omega) rfl
  · intro m i a hi hI ih
    show Ok (fX12_rankOf_b4 N s og p _ _ a (i : Int)) _
    unfold fX12_rankOf_b4
    refine Ok.bind (mdots_ok hs) (fun r1 hr1 => ?_)
    have hki := kyR_b hS.2 hd hi
    rw [hr1, Int.toNat_natCast, Int.toNat_natCast, hog i hi, hog p hp]
    repeat (first | refine Ok.gd (by omega) ?_ | refine Ok.ltp (by omega) ?_ | refine Ok.ltn (by omega) ?_ | refine Ok.eqp (by omega) ?_ | refine Ok.eqn (by omega) ?_)
    have e2 : rcS (kyR d W (W * H) t) (i + 1) (kyR d W (W * H) t p) = rcS (kyR d W (W * H) t) i (kyR d W (W * H) t p) + if kyR d W (W * H) t i < kyR d W (W * H) t p then 1 else 0 := rfl
    refine Ok.lt (by omega) (fun q => ?_) (fun q => ?_)
    · exact ih _ (by rw [e2, if_pos q, hI])
    · exact ih _ (by rw [e2, if_neg (by omega), hI])
  · intro m a hI
    show Ok (fX12_rankOf_b4 N s og p _ _ a ((W * H : Nat) : Int)) _
    unfold fX12_rankOf_b4 fX12_rankOf_j41
    refine Ok.bind (mdots_ok hs) (fun r1 hr1 => ?_)
    rw [hr1]
    exact Ok.ltn (by omega) (Ok.ret hI)
end PC
