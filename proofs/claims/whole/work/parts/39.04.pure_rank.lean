/-! Ranks: how many have a lesser key; an order that rises is the order of ranks. -/
section PB
def rcS (k : Nat → Int) (S : Nat) (a : Int) : Int := sI (fun q => if k q < a then 1 else 0) S
theorem sI_delta (p : Nat) : ∀ n, sI (fun q => if q = p then 1 else 0) n = if p < n then 1 else 0
  | 0 => by rw [if_neg (by omega)]; rfl
  | n + 1 => by
    rw [sI_succ, sI_delta p n]
    by_cases q : n = p
    · rw [if_pos q, if_neg (by omega), if_pos (by omega)]; rfl
    · rw [if_neg q]
      by_cases q2 : p < n
      · rw [if_pos q2, if_pos (by omega)]; rfl
      · rw [if_neg q2, if_neg (by omega)]; rfl
theorem rcS_b (k : Nat → Int) (S : Nat) (a : Int) : 0 ≤ rcS k S a ∧ rcS k S a ≤ S := by
  have h := sI_bound (f := fun q => if k q < a then (1 : Int) else 0) (c := 1) (n := S) (fun q _ => by by_cases z : k q < a <;> simp only [z, if_true, if_false] <;> omega)
  have e1 : (S : Int) * 1 = S := Int.mul_one _
  rw [e1] at h; exact h
theorem rcS_mono {k : Nat → Int} {S : Nat} {a b : Int} (h : a ≤ b) : rcS k S a ≤ rcS k S b := by
  refine sI_le (fun q _ => ?_)
  by_cases z : k q < a
  · rw [if_pos z, if_pos (by omega)]; omega
  · rw [if_neg z]
    by_cases z2 : k q < b
    · rw [if_pos z2]; omega
    · rw [if_neg z2]; omega
theorem rcS_strict {k : Nat → Int} {S p : Nat} {b : Int} (hp : p < S) (h : k p < b) : rcS k S (k p) + 1 ≤ rcS k S b := by
  have e1 : sI (fun q => if q = p then (1 : Int) else 0) S = 1 := by rw [sI_delta, if_pos hp]
  unfold rcS
  rw [← e1, ← sI_add]
  refine sI_le (fun q _ => ?_)
  by_cases z : q = p
  · rw [z, if_neg (by omega), if_pos rfl, if_pos h]; omega
  · rw [if_neg z]
    by_cases z2 : k q < k p
    · rw [if_pos z2, if_pos (by omega)]; omega
    · rw [if_neg z2]
      by_cases z3 : k q < b
      · rw [if_pos z3]; omega
      · rw [if_neg z3]; omega
theorem rcS_lt {k : Nat → Int} {S p : Nat} (hp : p < S) : rcS k S (k p) + 1 ≤ S := by
  have e1 : sI (fun q => if q = p then (1 : Int) else 0) S = 1 := by rw [sI_delta, if_pos hp]
  have e2 := sI_one S
  unfold rcS
  rw [← e1, ← sI_add, ← e2]
  refine sI_le (fun q _ => ?_)
  by_cases z : q = p
  · rw [z, if_neg (by omega), if_pos rfl]; omega
  · rw [if_neg z]
    by_cases z2 : k q < k p
    · rw [if_pos z2]; omega
    · rw [if_neg z2]; omega
theorem rcS_surj {k : Nat → Int} : ∀ (S : Nat), (∀ p q, p < S → q < S → k p = k q → p = q) → ∀ r : Nat, r < S → ∃ p, p < S ∧ rcS k S (k p) = (r : Int)
  | 0, _, r, hr => by omega
  | n + 1, hinj, r, hr => by
    have ih := rcS_surj n (fun p q hp hq => hinj p q (by omega) (by omega))
    have es : ∀ a, rcS k (n + 1) a = rcS k n a + if k n < a then 1 else 0 := fun a => rfl
    have hR := rcS_b k n (k n)
    obtain ⟨R, hRe⟩ : ∃ R : Nat, rcS k n (k n) = (R : Int) := ⟨(rcS k n (k n)).toNat, by omega⟩
    rcases Nat.lt_trichotomy r R with q | q | q
    · obtain ⟨p, p1, p2⟩ := ih r (by omega)
      refine ⟨p, by omega, ?_⟩
      have hk : k p < k n := by
        rcases Int.lt_or_le (k p) (k n) with z | z
        · exact z
        · have := rcS_mono (k := k) (S := n) z; omega
      rw [es, if_neg (by omega), p2, Int.add_zero]
    · refine ⟨n, by omega, ?_⟩
      rw [es, if_neg (by omega), hRe, q, Int.add_zero]
    · obtain ⟨p, p1, p2⟩ := ih (r - 1) (by omega)
      refine ⟨p, by omega, ?_⟩
      have hk : k n < k p := by
        rcases Int.lt_or_le (k n) (k p) with z | z
        · exact z
        · rcases Int.lt_or_le (k p) (k n) with z2 | z2
          · have := rcS_strict (k := k) (S := n) p1 z2; omega
          · have := hinj p n (by omega) (by omega) (by omega); omega
      rw [es, if_pos hk, p2]; omega
theorem rank_idx {k : Nat → Int} {S : Nat} {g : Nat → Nat} (hg : ∀ i, i < S → g i < S) (hk : ∀ i j, i < j → j < S → k (g i) < k (g j)) : ∀ r, r < S → rcS k S (k (g r)) = (r : Int) := by
  have lo : ∀ r, r < S → (r : Int) ≤ rcS k S (k (g r)) := by
    intro r
    induction r with
    | zero => intro _; exact (rcS_b _ _ _).1
    | succ n ih =>
      intro h
      have h1 := ih (by omega)
      have h2 := rcS_strict (k := k) (hg n (by omega)) (hk n (n + 1) (by omega) h)
      omega
  have hi : ∀ m r, r + m + 1 = S → rcS k S (k (g r)) ≤ (r : Int) := by
    intro m
    induction m with
    | zero => intro r h; have := rcS_lt (k := k) (hg r (by omega)); omega
    | succ n ih =>
      intro r h
      have h1 := ih (r + 1) (by omega)
      have h2 := rcS_strict (k := k) (hg r (by omega)) (hk r (r + 1) (by omega) (by omega))
      omega
  intro r hr
  have h1 := lo r hr
  have h2 := hi (S - r - 1) r (by omega)
  omega
/-- a rank tells the key -/
theorem rank_inj {k : Nat → Int} {S p q : Nat} (hp : p < S) (hq : q < S) (h : rcS k S (k p) = rcS k S (k q)) : k p = k q := by
  rcases Int.lt_trichotomy (k p) (k q) with z | z | z
  · have := rcS_strict (k := k) hp z; omega
  · exact z
  · have := rcS_strict (k := k) hq z; omega
/-! what is round a dot -/
def acS (d : Nat → Int) (W t p : Nat) : Int := (if p % W = 0 then 0 else d (64 * t + p - 1)) + d (64 * t + p) + (if p % W + 1 < W then d (64 * t + p + 1) else 0)
def rnS (d : Nat → Int) (W S t p : Nat) : Int := (if p < W then 0 else acS d W t (p - W)) + acS d W t p + (if p + W < S then acS d W t (p + W) else 0) - d (64 * t + p)
/-- dots of a frame, within bounds -/
def DotB (d : Nat → Int) (S t : Nat) : Prop := ∀ p, p < S → 0 ≤ d (64 * t + p) ∧ d (64 * t + p) ≤ 15
theorem place_b {W H y x : Nat} (hy : y < H) (hx : x < W) : y * W + x < W * H := by
  have h : (y + 1) * W ≤ H * W := Nat.mul_le_mul_right W hy
  rw [Nat.add_mul, Nat.one_mul, Nat.mul_comm H W] at h
  omega
theorem row_in {W H p : Nat} (hp : p < W * H) : p % W + 1 < W → p + 1 < W * H := by
  intro h
  have hW : 0 < W := by omega
  have e1 := Nat.div_add_mod p W
  have hy : p / W < H := Nat.div_lt_of_lt_mul hp
  have := place_b (x := p % W + 1) hy h
  rw [Nat.mul_comm] at this
  omega
theorem acS_b {d : Nat → Int} {W H t p : Nat} (hd : DotB d (W * H) t) (hp : p < W * H) : d (64 * t + p) ≤ acS d W t p ∧ acS d W t p ≤ d (64 * t + p) + 30 := by
  unfold acS
  have h0 := hd p hp
  have h1 : 0 ≤ (if p % W = 0 then (0 : Int) else d (64 * t + p - 1)) ∧ (if p % W = 0 then (0 : Int) else d (64 * t + p - 1)) ≤ 15 := by
    by_cases q : p % W = 0
    · rw [if_pos q]; omega
    · rw [if_neg q]
      have hp0 : p ≠ 0 := fun z => q (by rw [z, Nat.zero_mod])
      rw [show 64 * t + p - 1 = 64 * t + (p - 1) by omega]
      exact hd (p - 1) (by omega)
  have h2 : 0 ≤ (if p % W + 1 < W then d (64 * t + p + 1) else 0) ∧ (if p % W + 1 < W then d (64 * t + p + 1) else 0) ≤ 15 := by
    by_cases q : p % W + 1 < W
    · rw [if_pos q]; exact hd (p + 1) (row_in hp q)
    · rw [if_neg q]; omega
  omega
theorem rnS_b {d : Nat → Int} {W H t p : Nat} (hd : DotB d (W * H) t) (hp : p < W * H) : 0 ≤ rnS d W (W * H) t p ∧ rnS d W (W * H) t p ≤ 120 := by
  unfold rnS
  have h1 := acS_b hd hp
  have h0 : 0 ≤ (if p < W then (0 : Int) else acS d W t (p - W)) ∧ (if p < W then (0 : Int) else acS d W t (p - W)) ≤ 45 := by
    by_cases q : p < W
    · rw [if_pos q]; omega
    · rw [if_neg q]
      have := acS_b hd (show p - W < W * H by omega)
      have := hd (p - W) (by omega)
      omega
  have h2 : 0 ≤ (if p + W < W * H then acS d W t (p + W) else 0) ∧ (if p + W < W * H then acS d W t (p + W) else 0) ≤ 45 := by
    by_cases q : p + W < W * H
    · rw [if_pos q]
      have := acS_b hd q
      have := hd (p + W) q
      omega
    · rw [if_neg q]; omega
  omega
theorem across_ok {N W H t : Nat} {d ac : Nat → Int} (hW : 1 ≤ W ∧ W ≤ 8) (hH : 1 ≤ H ∧ H ≤ 8) (ht : t < 24) (hN : 70 < N) : Ok (fX6_addAcross N W H d ac t) (fun g => ∀ p, p < W * H → g p = acS d W t p) := by
  unfold fX6_addAcross
  have hS := size_b hW hH
  refine Ok.loop (fun m y g => fX6_addAcross_L8 N W H d t (fX6_addAcross_j125 N W H d t) m (t * 64 : Int) (y : Int) g) H (fun y g => ∀ p, p < y * W → g p = acS d W t p) _ ?_ ?_ N 0 ac (by omega) (by omega) (fun p hp => by rw [Nat.zero_mul] at hp; omega)
  · intro m y g hy hI ih
    show Ok (fX6_addAcross_b8 N W H d t _ _ (t * 64 : Int) (y : Int) g) _
    unfold fX6_addAcross_b8
    refine Ok.ltp (by omega) ?_
    refine Ok.loop (fun n x g => fX6_addAcross_L20 N W H d t (fX6_addAcross_j119 N W H d t (fX6_addAcross_L8 N W H d t (fX6_addAcross_j125 N W H d t) m) (fX6_addAcross_j125 N W H d t)) n (t * 64 : Int) (y : Int) (x : Int) g) W (fun x g => ∀ p, p < y * W + x → g p = acS d W t p) _ ?_ ?_ N 0 g (by omega) (by omega) (fun p hp => hI p (by omega))
    · intro n x g2 hx h2 ih2
      show Ok (fX6_addAcross_b20 N W H d t _ _ (t * 64 : Int) (y : Int) (x : Int) g2) _
      unfold fX6_addAcross_b20 fX6_addAcross_j61 fX6_addAcross_j89
      have hpl := place_b hy hx
      have hpm : (y * W + x) % W = x := by rw [Nat.add_comm, Nat.add_mul_mod_self_right, Nat.mod_eq_of_lt hx]
      have ep : (y : Int) * (W : Int) + (x : Int) = ((y * W + x : Nat) : Int) := by rw [Int.natCast_add, Int.natCast_mul]
      rw [ep]
      obtain ⟨p, hp⟩ : ∃ p : Nat, p = y * W + x := ⟨_, rfl⟩
      rw [← hp] at hpl hpm h2 ⊢
      have e1 : ((t : Int) * 64 + (p : Int)).toNat = 64 * t + p := by omega
      have e2 : ((t : Int) * 64 + (p : Int) - 1).toNat = 64 * t + p - 1 := by omega
      have e3 : ((t : Int) * 64 + (p : Int) + 1).toNat = 64 * t + p + 1 := by omega
      rw [e1, e2, e3, Int.toNat_natCast]
      have upd : ∀ v, v = acS d W t p → ∀ j, j < y * W + (x + 1) → uZ g2 p v j = acS d W t j := fun v hv j hj => by
        by_cases q : j = p
        · rw [q, uZ_at]; exact hv
        · rw [uZ_ne q]; exact h2 j (by omega)
      have hrow : x + 1 < W → p + 1 < W * H := fun z => row_in hpl (by rw [hpm]; exact z)
      refine Ok.ltp (by omega) ?_
      refine Ok.lt (by omega) (fun q => ?_) (fun q => ?_)
      · refine Ok.gd (by omega) (Ok.lt (by omega) (fun q2 => ?_) (fun q2 => ?_))
        · have := hrow (by omega)
          refine Ok.gd (by omega) (Ok.gd (by omega) (Ok.gd (by omega) (ih2 _ (upd _ ?_))))
          unfold acS; rw [hpm, if_neg (by omega), if_pos (by omega)]
        · refine Ok.gd (by omega) (Ok.gd (by omega) (ih2 _ (upd _ ?_)))
          unfold acS; rw [hpm, if_neg (by omega), if_neg (by omega)]
      · refine Ok.lt (by omega) (fun q2 => ?_) (fun q2 => ?_)
        · have := hrow (by omega)
          refine Ok.gd (by omega) (Ok.gd (by omega) (Ok.gd (by omega) (ih2 _ (upd _ ?_))))
          unfold acS; rw [hpm, if_pos (by omega), if_pos (by omega)]
        · refine Ok.gd (by omega) (Ok.gd (by omega) (ih2 _ (upd _ ?_)))
          unfold acS; rw [hpm, if_pos (by omega), if_neg (by omega)]
    · intro n g2 h2
      show Ok (fX6_addAcross_b20 N W H d t _ _ (t * 64 : Int) (y : Int) (W : Int) g2) _
      unfold fX6_addAcross_b20
      refine Ok.ltn (by omega) ?_
      unfold fX6_addAcross_j119
      refine ih g2 (fun p hp => h2 p ?_)
      rw [Nat.add_mul, Nat.one_mul] at hp; exact hp
  · intro m g hI
    show Ok (fX6_addAcross_b8 N W H d t _ _ (t * 64 : Int) (H : Int) g) _
    unfold fX6_addAcross_b8
    exact Ok.ltn (by omega) (Ok.ret (fun p hp => hI p (by rw [Nat.mul_comm]; exact hp)))
theorem around_ok {N W S t : Nat} {d ac ar : Nat → Int} (hS : S ≤ 64) (hW : W ≤ 8) (ht : t < 24) (hN : 70 < N) (hac : ∀ p, p < S → ac p = acS d W t p) : Ok (fX6_addAround N S W ac d ar t) (fun g => ∀ p, p < S → g p = rnS d W S t p) := by
  unfold fX6_addAround
  refine Ok.loop (fun m i g => fX6_addAround_L2 N S W ac d t (fX6_addAround_j101 N S W ac d t) m (i : Int) g) S (fun i g => ∀ p, p < i → g p = rnS d W S t p) _ ?_ ?_ N 0 ar (by omega) (by omega) (fun p hp => by omega)
  · intro m i g hi hI ih
    show Ok (fX6_addAround_b2 N S W ac d t _ _ (i : Int) g) _
    unfold fX6_addAround_b2 fX6_addAround_j33 fX6_addAround_j63
    have e1 : ((t : Int) * 64 + (i : Int)).toNat = 64 * t + i := by omega
    have e2 : ((i : Int) - (W : Int)).toNat = i - W := by omega
    have e3 : ((i : Int) + (W : Int)).toNat = i + W := by omega
    rw [e1, e2, e3, Int.toNat_natCast]
    have upd : ∀ v, v = rnS d W S t i → ∀ j, j < i + 1 → uZ g i v j = rnS d W S t j := fun v hv j hj => by
      by_cases q : j = i
      · rw [q, uZ_at]; exact hv
      · rw [uZ_ne q]; exact hI j (by omega)
    refine Ok.ltp (by omega) (Ok.lt (by omega) (fun q => ?_) (fun q => ?_))
    · refine Ok.lt (by omega) (fun q2 => ?_) (fun q2 => ?_)
      · refine Ok.gd (by omega) (Ok.gd (by omega) (Ok.gd (by omega) (Ok.gd (by omega) (ih _ (upd _ ?_)))))
        unfold rnS; rw [if_pos (by omega), if_pos (by omega), hac i hi, hac (i + W) (by omega)]
      · refine Ok.gd (by omega) (Ok.gd (by omega) (Ok.gd (by omega) (ih _ (upd _ ?_))))
        unfold rnS; rw [if_pos (by omega), if_neg (by omega), hac i hi]
    · refine Ok.gd (by omega) (Ok.lt (by omega) (fun q2 => ?_) (fun q2 => ?_))
      · refine Ok.gd (by omega) (Ok.gd (by omega) (Ok.gd (by omega) (Ok.gd (by omega) (ih _ (upd _ ?_)))))
        unfold rnS; rw [if_neg (by omega), if_pos (by omega), hac i hi, hac (i + W) (by omega), hac (i - W) (by omega)]
      · refine Ok.gd (by omega) (Ok.gd (by omega) (Ok.gd (by omega) (ih _ (upd _ ?_))))
        unfold rnS; rw [if_neg (by omega), if_neg (by omega), hac i hi, hac (i - W) (by omega)]
  · intro m g hI
    show Ok (fX6_addAround_b2 N S W ac d t _ _ (S : Int) g) _
    unfold fX6_addAround_b2
    exact Ok.ltn (by omega) (Ok.ret hI)
/-! the order by shade -/
def k1S (d : Nat → Int) (t q : Nat) : Int := d (64 * t + q) * 64 + (q : Int)
def kyR (d : Nat → Int) (W S t q : Nat) : Int := (d (64 * t + q) * 128 + rnS d W S t q) * 64 + (q : Int)
/-- where a dot comes by shade, then by place -/
theorem rank1 {d : Nat → Int} {S t p : Nat} (hS : S ≤ 64) (hd : DotB d S t) (hp : p < S) : rcS (k1S d t) S (k1S d t p) = (if d (64 * t + p) = 0 then 0 else cumS d S t ((d (64 * t + p)).toNat - 1)) + cntS d p t (d (64 * t + p)).toNat := by
  have h0 := hd p hp
  have e2 : cntS d p t (d (64 * t + p)).toNat = sI (fun q => if q < p ∧ d (64 * t + q) = d (64 * t + p) then 1 else 0) S := by
    rw [sI_tail (a := p) (by omega) (fun k h1 h2 => if_neg (by omega))]
    refine sI_cong (fun k hk => ?_)
    by_cases z : d (64 * t + k) = d (64 * t + p)
    · rw [if_pos (by omega), if_pos (by omega)]
    · rw [if_neg (by omega), if_neg (by omega)]
  have e1 : (if d (64 * t + p) = 0 then 0 else cumS d S t ((d (64 * t + p)).toNat - 1)) = sI (fun q => if d (64 * t + q) < d (64 * t + p) then 1 else 0) S := by
    by_cases z : d (64 * t + p) = 0
    · rw [if_pos z, sI_zero (fun k hk => if_neg (by have := hd k hk; omega))]
    · rw [if_neg z]
      refine sI_cong (fun k hk => ?_)
      by_cases z2 : d (64 * t + k) < d (64 * t + p)
      · rw [if_pos (by omega), if_pos z2]
      · rw [if_neg (by omega), if_neg z2]
  rw [e1, e2, ← sI_add]
  refine sI_cong (fun k hk => ?_)
  have hk2 := hd k hk
  unfold k1S
  by_cases z : d (64 * t + k) < d (64 * t + p)
  · rw [if_pos (by omega), if_pos z, if_neg (by omega)]; rfl
  · rw [if_neg z]
    by_cases z2 : k < p ∧ d (64 * t + k) = d (64 * t + p)
    · rw [if_pos (by omega), if_pos z2]; rfl
    · rw [if_neg (by omega), if_neg z2]; rfl
theorem k1_inj {d : Nat → Int} {S t p q : Nat} (hS : S ≤ 64) (hp : p < S) (hq : q < S) (h : k1S d t p = k1S d t q) : p = q := by
  unfold k1S at h; omega
end PB
