/-! THE PURE LEVEL: helpers. Conditions of the machine's ints under bounds; loops by their state at each step; sums. -/
section P0
theorem ilt {a b : Int} (h : (-2147483648 ≤ a ∧ a < 2147483648) ∧ -2147483648 ≤ b ∧ b < 2147483648) : (iZ a < iZ b) = (a < b) := propext (iZ_lt h.1.1 h.1.2 h.2.1 h.2.2)
theorem ieq {a b : Int} (h : (-2147483648 ≤ a ∧ a < 2147483648) ∧ -2147483648 ≤ b ∧ b < 2147483648) : (iZ a = iZ b) = (a = b) := propext (iZ_eq h.1.1 h.1.2 h.2.1 h.2.2)
theorem ilt_p {α : Type} {a b : Int} {x y : α} (h : a < b ∧ -2147483648 ≤ a ∧ b < 2147483648) : (if iZ a < iZ b then x else y) = x := if_pos ((iZ_lt h.2.1 (by omega) (by omega) h.2.2).mpr h.1)
theorem ilt_n {α : Type} {a b : Int} {x y : α} (h : b ≤ a ∧ -2147483648 ≤ b ∧ a < 2147483648) : (if iZ a < iZ b then x else y) = y := if_neg (fun z => by rw [iZ_lt (by omega) h.2.2 h.2.1 (by omega)] at z; omega)
theorem ieq_p {α : Type} {a b : Int} {x y : α} (h : a = b) : (if iZ a = iZ b then x else y) = x := if_pos (by rw [h])
theorem ieq_n {α : Type} {a b : Int} {x y : α} (h : a ≠ b ∧ (-2147483648 ≤ a ∧ a < 2147483648) ∧ -2147483648 ≤ b ∧ b < 2147483648) : (if iZ a = iZ b then x else y) = y := if_neg (fun z => by rw [iZ_eq h.2.1.1 h.2.1.2 h.2.2.1 h.2.2.2] at z; exact h.1 z)
/-- a loop that counts up: its value at step i is the same for all i up to e -/
theorem loop_up {β : Type} (F : Nat → Nat → β) (e : Nat) (r : β) (hs : ∀ n i, i < e → F (n + 1) i = F n (i + 1)) (hx : ∀ n, F (n + 1) e = r) : ∀ n i, i ≤ e → e < n + i → F n i = r := by
  intro n
  induction n with
  | zero => intro i h1 h2; omega
  | succ n ih =>
    intro i h1 h2
    rcases Nat.lt_or_ge i e with q | q
    · rw [hs n i q]; exact ih (i + 1) q (by omega)
    · have e1 : i = e := by omega
      rw [e1]; exact hx n
/-- a loop with a state of its own: an invariant carried from i to e -/
theorem loop_inv {β σ : Type} (F : Nat → Nat → σ → β) (e : Nat) (I : Nat → σ → Prop) (P : β → Prop) (hs : ∀ n i s, i < e → I i s → (∀ s', I (i + 1) s' → P (F n (i + 1) s')) → P (F (n + 1) i s)) (hx : ∀ n s, I e s → P (F (n + 1) e s)) : ∀ n i s, i ≤ e → e < n + i → I i s → P (F n i s) := by
  intro n
  induction n with
  | zero => intro i s h1 h2; omega
  | succ n ih =>
    intro i s h1 h2 hI
    rcases Nat.lt_or_ge i e with q | q
    · exact hs n i s q hI (fun s' hI' => ih (i + 1) s' q (by omega) hI')
    · have e1 : i = e := by omega
      rw [e1] at hI ⊢; exact hx n s hI
def sI (f : Nat → Int) : Nat → Int
  | 0 => 0
  | n + 1 => sI f n + f n
theorem sI_succ (f : Nat → Int) (n : Nat) : sI f (n + 1) = sI f n + f n := rfl
theorem sI_cong {f g : Nat → Int} : ∀ {n : Nat}, (∀ k, k < n → f k = g k) → sI f n = sI g n
  | 0, _ => rfl
  | n + 1, h => by rw [sI_succ, sI_succ, sI_cong (fun k hk => h k (by omega)), h n (by omega)]
theorem sI_add (f g : Nat → Int) : ∀ n, sI (fun k => f k + g k) n = sI f n + sI g n
  | 0 => rfl
  | n + 1 => by rw [sI_succ, sI_succ, sI_succ, sI_add f g n]; omega
theorem sI_zero {f : Nat → Int} : ∀ {n : Nat}, (∀ k, k < n → f k = 0) → sI f n = 0
  | 0, _ => rfl
  | n + 1, h => by rw [sI_succ, sI_zero (fun k hk => h k (by omega)), h n (by omega)]; rfl
theorem sI_bound {f : Nat → Int} {c : Int} : ∀ {n : Nat}, (∀ k, k < n → 0 ≤ f k ∧ f k ≤ c) → 0 ≤ sI f n ∧ sI f n ≤ n * c
  | 0, _ => by simp [sI]
  | n + 1, h => by
    have h1 := sI_bound (n := n) (c := c) (fun k hk => h k (by omega))
    have h2 := h n (by omega)
    have e1 : ((n + 1 : Nat) : Int) * c = n * c + c := by rw [Int.natCast_add, Int.add_mul]; simp
    rw [sI_succ, e1]; omega
theorem sI_le {f g : Nat → Int} : ∀ {n : Nat}, (∀ k, k < n → f k ≤ g k) → sI f n ≤ sI g n
  | 0, _ => Int.le_refl _
  | n + 1, h => by
    have h1 := sI_le (n := n) (fun k hk => h k (by omega))
    have h2 := h n (by omega)
    rw [sI_succ, sI_succ]; omega
/-- the absolute value, as the methods have it -/
def ab (z : Int) : Int := if z < 0 then -z else z
theorem ab_nn (z : Int) : 0 ≤ ab z := by unfold ab; by_cases h : z < 0 <;> simp only [h, if_true, if_false] <;> omega
theorem ab_sym (a b : Int) : ab (a - b) = ab (b - a) := by
  unfold ab
  by_cases h : a - b < 0
  · rw [if_pos h]
    by_cases h2 : b - a < 0
    · rw [if_pos h2]; omega
    · rw [if_neg h2]; omega
  · rw [if_neg h]
    by_cases h2 : b - a < 0
    · rw [if_pos h2]; omega
    · rw [if_neg h2]; omega
theorem ab_le {z c : Int} (h : -c ≤ z ∧ z ≤ c) : ab z ≤ c := by unfold ab; by_cases q : z < 0 <;> simp only [q, if_true, if_false] <;> omega
theorem abZ_ab {z : Int} (h : -2147483648 < z ∧ z < 2147483648) : abZ z = ab z := by
  unfold abZ ab
  by_cases q : z < 0
  · rw [if_pos q, ilt_p (by omega)]; omega
  · rw [if_neg q, ilt_n (by omega)]
theorem mxZ_max {a b : Int} (h : (-2147483648 ≤ a ∧ a < 2147483648) ∧ -2147483648 ≤ b ∧ b < 2147483648) : mxZ a b = if a < b then b else a := by
  unfold mxZ; simp only [ilt h]
theorem mnZ_min {a b : Int} (h : (-2147483648 ≤ a ∧ a < 2147483648) ∧ -2147483648 ≤ b ∧ b < 2147483648) : mnZ a b = if b < a then b else a := by
  unfold mnZ
  have h2 : (iZ b < iZ a) = (b < a) := ilt (by omega)
  simp only [h2]
theorem uZ_at (f : Nat → Int) (k : Nat) (v : Int) : uZ f k v k = v := if_pos rfl
theorem uZ_ne {f : Nat → Int} {k j : Nat} {v : Int} (h : j ≠ k) : uZ f k v j = f j := if_neg h
theorem cmpZ_eq {a b : Int} (h : (-2147483648 ≤ a ∧ a < 2147483648) ∧ -2147483648 ≤ b ∧ b < 2147483648) : cmpZ a b = if b < a then 1 else if a = b then 0 else -1 := by
  have w : ∀ x y : Int32, x.toInt64 < y.toInt64 ↔ x < y := fun x y => by rw [Int64.lt_iff_toInt_lt, Int32.lt_iff_toInt_lt, Int32.toInt_toInt64, Int32.toInt_toInt64]
  have hb := iZ_lt h.2.1 h.2.2 h.1.1 h.1.2
  have he := iZ_eq h.1.1 h.1.2 h.2.1 h.2.2
  unfold cmpZ lg_cmp
  by_cases q1 : b < a
  · rw [if_pos q1, if_pos (show (iZ a).toInt64 > (iZ b).toInt64 from (w _ _).mpr (hb.mpr q1))]; decide
  · rw [if_neg q1, if_neg (show ¬ (iZ a).toInt64 > (iZ b).toInt64 from fun z => q1 (hb.mp ((w _ _).mp z)))]
    by_cases q2 : a = b
    · rw [if_pos q2, if_pos (by rw [q2])]; decide
    · rw [if_neg q2, if_neg (fun z => q2 (he.mp (by
        have z2 : (iZ a).toInt64.toInt = (iZ b).toInt64.toInt := by rw [z]
        rw [Int32.toInt_toInt64, Int32.toInt_toInt64] at z2
        exact Int32.toInt_inj.mp z2)))]; decide
theorem cmpZ_lt {a b : Int} (h : (-2147483648 ≤ a ∧ a < 2147483648) ∧ -2147483648 ≤ b ∧ b < 2147483648) : (iZ (cmpZ a b) < iZ 0) = (a < b) := by
  rw [cmpZ_eq h]
  apply propext
  by_cases q1 : b < a
  · rw [if_pos q1]; exact ⟨fun z => absurd z (by decide), fun z => by omega⟩
  · rw [if_neg q1]
    by_cases q2 : a = b
    · rw [if_pos q2]; exact ⟨fun z => absurd z (by decide), fun z => by omega⟩
    · rw [if_neg q2]; exact ⟨fun _ => by omega, fun _ => by decide⟩
theorem cmpZ_gt {a b : Int} (h : (-2147483648 ≤ a ∧ a < 2147483648) ∧ -2147483648 ≤ b ∧ b < 2147483648) : (iZ 0 < iZ (cmpZ a b)) = (b < a) := by
  rw [cmpZ_eq h]
  apply propext
  by_cases q1 : b < a
  · rw [if_pos q1]; exact ⟨fun _ => q1, fun _ => by decide⟩
  · rw [if_neg q1]
    by_cases q2 : a = b
    · rw [if_pos q2]; exact ⟨fun z => absurd z (by decide), fun z => by omega⟩
    · rw [if_neg q2]; exact ⟨fun z => absurd z (by decide), fun z => by omega⟩
theorem isIn_eq {N : Nat} {v a b : Int} (h : (-2147483648 ≤ v ∧ v < 2147483648) ∧ (-2147483648 ≤ a ∧ a < 2147483648) ∧ -2147483648 ≤ b ∧ b < 2147483648) : fX12_isIn N v a b = some (if a ≤ v ∧ v ≤ b then 1 else 0) := by
  unfold fX12_isIn
  have h1 : (iZ (cmpZ v a) < iZ 0) = (v < a) := cmpZ_lt (by omega)
  have h2 : (iZ 0 < iZ (cmpZ v b)) = (b < v) := cmpZ_gt (by omega)
  simp only [h1, h2]
  by_cases q1 : v < a
  · rw [if_pos q1, if_neg (by omega)]
  · rw [if_neg q1]
    by_cases q2 : b < v
    · rw [if_pos q2, if_neg (by omega)]
    · rw [if_neg q2, if_pos (by omega)]
/-- a computation that comes to an end, with a property -/
def Ok {α : Type} (o : Option α) (P : α → Prop) : Prop := ∃ r, o = some r ∧ P r
theorem Ok.ret {α : Type} {r : α} {P : α → Prop} (h : P r) : Ok (some r) P := ⟨r, rfl, h⟩
theorem Ok.bind {α β : Type} {x : Option α} {f : α → Option β} {P : α → Prop} {Q : β → Prop} (h : Ok x P) (k : ∀ r, P r → Ok (f r) Q) : Ok (x.bind f) Q := by
  obtain ⟨r, rfl, h2⟩ := h
  exact k r h2
theorem Ok.gd {α : Type} {c : Prop} [Decidable c] {x : Option α} {P : α → Prop} (hc : c) (h : Ok x P) : Ok (gd c x) P := by rw [gd_pos hc]; exact h
theorem Ok.ltp {α : Type} {a b : Int} {x y : Option α} {P : α → Prop} (hc : a < b ∧ -2147483648 ≤ a ∧ b < 2147483648) (h : Ok x P) : Ok (if iZ a < iZ b then x else y) P := by rw [ilt_p hc]; exact h
theorem Ok.ltn {α : Type} {a b : Int} {x y : Option α} {P : α → Prop} (hc : b ≤ a ∧ -2147483648 ≤ b ∧ a < 2147483648) (h : Ok y P) : Ok (if iZ a < iZ b then x else y) P := by rw [ilt_n hc]; exact h
theorem Ok.eqp {α : Type} {a b : Int} {x y : Option α} {P : α → Prop} (hc : a = b) (h : Ok x P) : Ok (if iZ a = iZ b then x else y) P := by rw [ieq_p hc]; exact h
theorem Ok.eqn {α : Type} {a b : Int} {x y : Option α} {P : α → Prop} (hc : a ≠ b ∧ (-2147483648 ≤ a ∧ a < 2147483648) ∧ -2147483648 ≤ b ∧ b < 2147483648) (h : Ok y P) : Ok (if iZ a = iZ b then x else y) P := by rw [ieq_n hc]; exact h
theorem Ok.lt {α : Type} {a b : Int} {x y : Option α} {P : α → Prop} (hc : (-2147483648 ≤ a ∧ a < 2147483648) ∧ -2147483648 ≤ b ∧ b < 2147483648) (h1 : a < b → Ok x P) (h2 : b ≤ a → Ok y P) : Ok (if iZ a < iZ b then x else y) P := by
  rcases Int.lt_or_le a b with q | q
  · rw [ilt_p (by omega)]; exact h1 q
  · rw [ilt_n (by omega)]; exact h2 q
theorem Ok.eq {α : Type} {a b : Int} {x y : Option α} {P : α → Prop} (hc : (-2147483648 ≤ a ∧ a < 2147483648) ∧ -2147483648 ≤ b ∧ b < 2147483648) (h1 : a = b → Ok x P) (h2 : a ≠ b → Ok y P) : Ok (if iZ a = iZ b then x else y) P := by
  by_cases q : a = b
  · rw [ieq_p q]; exact h1 q
  · rw [ieq_n ⟨q, hc⟩]; exact h2 q
theorem Ok.mono {α : Type} {o : Option α} {P Q : α → Prop} (h : Ok o P) (k : ∀ r, P r → Q r) : Ok o Q := by
  obtain ⟨r, e1, h2⟩ := h
  exact ⟨r, e1, k r h2⟩
theorem Ok.loop {β σ : Type} (F : Nat → Nat → σ → Option β) (e : Nat) (I : Nat → σ → Prop) (P : β → Prop) (hs : ∀ n i s, i < e → I i s → (∀ s', I (i + 1) s' → Ok (F n (i + 1) s') P) → Ok (F (n + 1) i s) P) (hx : ∀ n s, I e s → Ok (F (n + 1) e s) P) : ∀ n i s, i ≤ e → e < n + i → I i s → Ok (F n i s) P := loop_inv F e I (fun o => Ok o P) hs hx
/-! first users: Arrays.fill, the gap of two rows -/
theorem fill_ok {N n : Nat} {f : Nat → Int} {v : Int} (hn : n < 2147483648) (hN : n < N) : Ok (fJ7_fill_53178 N n f v) (fun g => ∀ j, g j = if j < n then v else f j) := by
  unfold fJ7_fill_53178
  refine Ok.loop (fun m i g => fJ7_fill_53178_L5 N n v (fJ7_fill_53178_j20 N n v) m (i : Int) (n : Int) g) n (fun i g => ∀ j, g j = if j < i then v else f j) _ ?_ ?_ N 0 f (by omega) (by omega) (fun j => by rw [if_neg (by omega)])
  · intro m i g hi hI ih
    show Ok (fJ7_fill_53178_b5 N n v _ _ (i : Int) (n : Int) g) _
    unfold fJ7_fill_53178_b5
    refine Ok.ltp (by omega) (Ok.gd (by omega) ?_)
    refine ih _ (fun j => ?_)
    rw [Int.toNat_natCast]
    by_cases q : j = i
    · rw [q, uZ_at, if_pos (by omega)]
    · rw [uZ_ne q, hI j]
      by_cases q2 : j < i
      · rw [if_pos q2, if_pos (by omega)]
      · rw [if_neg q2, if_neg (by omega)]
  · intro m g hI
    show Ok (fJ7_fill_53178_b5 N n v _ _ (n : Int) (n : Int) g) _
    unfold fJ7_fill_53178_b5
    exact Ok.ltn (by omega) (Ok.ret hI)
/-- how far two rows of 16 are apart -/
def gapS (c : Nat → Int) (t u : Nat) : Int := sI (fun v => ab (c (16 * t + v) - c (16 * u + v))) 16
theorem gap_ok {N : Nat} {c : Nat → Int} {t u : Nat} (ht : t < 24) (hu : u < 24) (hN : 20 < N) (hc : ∀ j, j < 384 → 0 ≤ c j ∧ c j ≤ 64) : Ok (fX9_gap N c t u) (fun r => r = gapS c t u) := by
  unfold fX9_gap
  have hb : ∀ i, i ≤ 16 → 0 ≤ sI (fun v => ab (c (16 * t + v) - c (16 * u + v))) i ∧ sI (fun v => ab (c (16 * t + v) - c (16 * u + v))) i ≤ i * 64 := fun i hi => sI_bound (fun k hk => ⟨ab_nn _, ab_le (by have := hc (16 * t + k) (by omega); have := hc (16 * u + k) (by omega); omega)⟩)
  refine Ok.loop (fun m i s => fX9_gap_L5 N c t u (fX9_gap_j61 N c t u) m s (i : Int)) 16 (fun i s => s = sI (fun v => ab (c (16 * t + v) - c (16 * u + v))) i) _ ?_ ?_ N 0 0 (by omega) (by omega) rfl
  · intro m i s hi hI ih
    show Ok (fX9_gap_b5 N c t u _ _ s (i : Int)) _
    unfold fX9_gap_b5
    have e1 : ((t : Int) * 16 + (i : Int)).toNat = 16 * t + i := by omega
    have e2 : ((u : Int) * 16 + (i : Int)).toNat = 16 * u + i := by omega
    have h1 := hc (16 * t + i) (by omega)
    have h2 := hc (16 * u + i) (by omega)
    rw [e1, e2]
    refine Ok.ltp (by omega) (Ok.gd (by omega) (Ok.gd (by omega) ?_))
    refine Ok.lt (by omega) (fun q => ?_) (fun q => ?_)
    · refine ih _ ?_
      rw [sI_succ, ← hI]
      show s + _ = s + ab _
      unfold ab
      rw [if_pos q]
    · refine ih _ ?_
      rw [sI_succ, ← hI]
      show s + _ = s + ab _
      unfold ab
      rw [if_neg (by omega)]
  · intro m s hI
    show Ok (fX9_gap_b5 N c t u _ _ s ((16 : Nat) : Int)) _
    unfold fX9_gap_b5
    exact Ok.ltn (by omega) (Ok.ret hI)
end P0
