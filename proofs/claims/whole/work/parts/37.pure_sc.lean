/-! Scenes: first and last of a frame's scene, the key frame; class and reference. -/
section P6
def stS (b : Nat → Bool) : Nat → Nat
  | 0 => 0
  | t + 1 => if b (t + 1) then t + 1 else stS b t
theorem stS_succ (b : Nat → Bool) (t : Nat) : stS b (t + 1) = if b (t + 1) then t + 1 else stS b t := rfl
theorem stS_spec {b : Nat → Bool} (h0 : b 0 = true) : ∀ t : Nat, stS b t ≤ t ∧ b (stS b t) = true ∧ (∀ w, stS b t < w → w ≤ t → b w = false) ∧ ctB b (stS b t) + 1 = ctB b (t + 1)
  | 0 => ⟨Nat.le_refl 0, h0, fun w h1 h2 => by have e1 : stS b 0 = 0 := rfl; omega, by rw [ctB_succ, if_pos (show b 0 = true from h0)]; rfl⟩
  | t + 1 => by
    rw [stS_succ]
    by_cases q : b (t + 1) = true
    · rw [if_pos q]
      exact ⟨Nat.le_refl _, q, fun w h1 h2 => by omega, by rw [ctB_succ b (t + 1), if_pos q]⟩
    · rw [if_neg q]
      obtain ⟨h1, h2, h3, h4⟩ := stS_spec h0 t
      refine ⟨by omega, h2, fun w g1 g2 => ?_, by rw [ctB_succ b (t + 1), if_neg q]; exact h4⟩
      rcases Nat.lt_or_ge w (t + 1) with g | g
      · exact h3 w g1 (by omega)
      · rw [show w = t + 1 by omega]; exact Bool.eq_false_iff.mpr q
/-- the last frame of a frame's scene -/
def lsS (b : Nat → Bool) (t : Nat) : Nat → Nat
  | 0 => 0
  | n + 1 => if ctB b (n + 1) = ctB b (t + 1) then n else lsS b t n
theorem lsS_spec {b : Nat → Bool} {t : Nat} : ∀ F : Nat, t < F → t ≤ lsS b t F ∧ lsS b t F < F ∧ ctB b (lsS b t F + 1) = ctB b (t + 1) ∧ ∀ u, lsS b t F < u → u < F → ctB b (u + 1) ≠ ctB b (t + 1)
  | 0, h => by omega
  | n + 1, h => by
    show t ≤ (if ctB b (n + 1) = ctB b (t + 1) then n else lsS b t n) ∧ _
    have e1 : lsS b t (n + 1) = if ctB b (n + 1) = ctB b (t + 1) then n else lsS b t n := rfl
    rw [e1]
    by_cases q : ctB b (n + 1) = ctB b (t + 1)
    · rw [if_pos q]
      exact ⟨by omega, by omega, q, fun u h1 h2 => by omega⟩
    · rw [if_neg q]
      have hn : t < n := by
        rcases Nat.lt_or_ge t n with g | g
        · exact g
        · exact absurd (by rw [show n = t by omega]) q
      obtain ⟨h1, h2, h3, h4⟩ := lsS_spec n hn
      refine ⟨h1, by omega, h3, fun u g1 g2 => ?_⟩
      rcases Nat.lt_or_ge u n with g | g
      · exact h4 u g1 g
      · rw [show u = n by omega]; exact q
/-- of one scene: between its first and its last -/
theorem same_iff {b : Nat → Bool} (h0 : b 0 = true) {t u F : Nat} (ht : t < F) (hu : u < F) : ctB b (u + 1) = ctB b (t + 1) ↔ stS b t ≤ u ∧ u ≤ lsS b t F := by
  obtain ⟨h1, h2, h3, h4⟩ := stS_spec h0 t
  obtain ⟨g1, g2, g3, g4⟩ := lsS_spec (b := b) F ht
  constructor
  · intro e
    constructor
    · rcases Nat.lt_or_ge u (stS b t) with q | q
      · have := ctB_mono b (show u + 1 ≤ stS b t by omega); omega
      · exact q
    · rcases Nat.lt_or_ge (lsS b t F) u with q | q
      · exact absurd e (g4 u q hu)
      · exact q
  · rintro ⟨q1, q2⟩
    have m1 := ctB_mono b (show stS b t + 1 ≤ u + 1 by omega)
    have m2 := ctB_mono b (show u + 1 ≤ lsS b t F + 1 by omega)
    have e1 := ctB_succ b (stS b t)
    rw [if_pos h2] at e1
    omega
/-- behind the last of a scene stands another, or none -/
theorem ls_next {b : Nat → Bool} {t F : Nat} (ht : t < F) : ctB b (lsS b t F + 1) = ctB b (t + 1) ∧ (lsS b t F + 1 = F ∨ (lsS b t F + 1 < F ∧ b (lsS b t F + 1) = true)) := by
  obtain ⟨g1, g2, g3, g4⟩ := lsS_spec (b := b) F ht
  refine ⟨g3, ?_⟩
  rcases Nat.lt_or_ge (lsS b t F + 1) F with q | q
  · refine Or.inr ⟨q, ?_⟩
    have h := g4 (lsS b t F + 1) (by omega) q
    have e1 := ctB_succ b (lsS b t F + 1)
    by_cases z : b (lsS b t F + 1) = true
    · exact z
    · rw [if_neg z] at e1; omega
  · exact Or.inl (by omega)
theorem ScR.start {b : Nat → Bool} {F : Nat} {many : Int} {so fo : Nat → Int} (hR : ScR b F many so fo) (h0 : b 0 = true) {t : Nat} (ht : t < F) : so t = (ctB b (stS b t) : Int) ∧ fo (ctB b (stS b t)) = (stS b t : Int) := by
  obtain ⟨h1, h2, h3, h4⟩ := stS_spec h0 t
  obtain ⟨g1, g2, g3, g4⟩ := hR
  exact ⟨by rw [g2 t ht]; omega, g3 _ (by omega) h2⟩
theorem ScR.last {b : Nat → Bool} {F : Nat} {many : Int} {so fo : Nat → Int} (hR : ScR b F many so fo) {t : Nat} (ht : t < F) : fo (ctB b (t + 1)) = (lsS b t F : Int) + 1 := by
  obtain ⟨g1, g2, g3, g4⟩ := hR
  obtain ⟨e1, e2⟩ := ls_next (b := b) ht
  rcases e2 with e2 | ⟨e2, e3⟩
  · rw [← e1, e2, g4]; omega
  · rw [← e1, g3 _ e2 e3]; omega
/-- a scene's number has a first frame -/
theorem scene_ex {b : Nat → Bool} : ∀ (F k : Nat), k < ctB b F → ∃ a, a < F ∧ b a = true ∧ ctB b a = k
  | 0, k, h => by have e1 : ctB b 0 = 0 := rfl; omega
  | n + 1, k, h => by
    rcases Nat.lt_or_ge k (ctB b n) with q | q
    · obtain ⟨a, h1, h2, h3⟩ := scene_ex n k q
      exact ⟨a, by omega, h2, h3⟩
    · rw [ctB_succ] at h
      by_cases z : b n = true
      · rw [if_pos z] at h
        exact ⟨n, by omega, z, by omega⟩
      · rw [if_neg z] at h; omega
theorem stS_self {b : Nat → Bool} {a : Nat} (h : b a = true) : stS b a = a := by
  cases a with
  | zero => rfl
  | succ n => rw [stS_succ, if_pos h]
/-- how far a frame is from n frames from a on -/
def awS (c : Nat → Int) (a n f : Nat) : Int := sI (fun k => gapS c f (a + k)) n
/-- the first least of a .. a + n -/
def mdS (w : Nat → Int) (a : Nat) : Nat → Nat
  | 0 => a
  | n + 1 => if w (a + n + 1) < w (mdS w a n) then a + n + 1 else mdS w a n
theorem mdS_succ (w : Nat → Int) (a n : Nat) : mdS w a (n + 1) = if w (a + n + 1) < w (mdS w a n) then a + n + 1 else mdS w a n := rfl
theorem mdS_b (w : Nat → Int) (a : Nat) : ∀ n, a ≤ mdS w a n ∧ mdS w a n ≤ a + n
  | 0 => ⟨Nat.le_refl _, Nat.le_refl _⟩
  | n + 1 => by
    have h := mdS_b w a n
    rw [mdS_succ]
    by_cases q : w (a + n + 1) < w (mdS w a n)
    · rw [if_pos q]; omega
    · rw [if_neg q]; omega
theorem mdS_cong {w w' : Nat → Int} {a : Nat} : ∀ {n : Nat}, (∀ f, a ≤ f → f ≤ a + n → w f = w' f) → mdS w a n = mdS w' a n
  | 0, _ => rfl
  | n + 1, h => by
    have hb := mdS_b w' a n
    rw [mdS_succ, mdS_succ, mdS_cong (n := n) (fun f h1 h2 => h f h1 (by omega)), h (a + n + 1) (by omega) (by omega), h (mdS w' a n) hb.1 (by omega)]
/-- the key frame of the scene of t -/
def kyS (b : Nat → Bool) (c : Nat → Int) (F t : Nat) : Nat := mdS (awS c (stS b t) (lsS b t F + 1 - stS b t)) (stS b t) (lsS b t F - stS b t)
theorem kyS_b {b : Nat → Bool} (h0 : b 0 = true) {c : Nat → Int} {F t : Nat} (ht : t < F) : kyS b c F t < F := by
  have h1 := stS_spec h0 t
  have h2 := lsS_spec (b := b) F ht
  have h3 := mdS_b (awS c (stS b t) (lsS b t F + 1 - stS b t)) (stS b t) (lsS b t F - stS b t)
  unfold kyS; omega
/-- frames of one scene have one key -/
theorem same_st {b : Nat → Bool} (h0 : b 0 = true) {t u F : Nat} (ht : t < F) (hu : u < F) (h : ctB b (u + 1) = ctB b (t + 1)) : stS b u = stS b t ∧ lsS b u F = lsS b t F := by
  have a1 := stS_spec h0 t
  have a2 := stS_spec h0 u
  have l1 := lsS_spec (b := b) F ht
  have l2 := lsS_spec (b := b) F hu
  have s1 := (same_iff h0 ht (u := stS b u) (by omega)).mp (by have := ctB_succ b (stS b u); rw [if_pos a2.2.1] at this; omega)
  have s2 := (same_iff h0 hu (u := stS b t) (by omega)).mp (by have := ctB_succ b (stS b t); rw [if_pos a1.2.1] at this; omega)
  have s3 := (same_iff h0 ht (u := lsS b u F) l2.2.1).mp (by omega)
  have s4 := (same_iff h0 hu (u := lsS b t F) l1.2.1).mp (by omega)
  omega
/-- a row of counts agrees with C in the frames that are -/
def CR (C : Nat → Int) (F : Nat) (c : Nat → Int) : Prop := ∀ t v, t < F → v < 16 → c (16 * t + v) = C (16 * t + v)
theorem CR.row {C : Nat → Int} {F : Nat} {c : Nat → Int} (h : CR C F c) (hC : RowB C) (hF : F ≤ 24) {t : Nat} (ht : t < F) : RowT c t := fun v hv => by rw [h t v ht hv]; exact hC _ (by omega)
theorem CR.gap {C : Nat → Int} {F : Nat} {c : Nat → Int} (h : CR C F c) {t u : Nat} (ht : t < F) (hu : u < F) : gapS c t u = gapS C t u := gapS_cong (fun v hv => h t v ht hv) (fun v hv => h u v hu hv)
theorem CR.num {C : Nat → Int} {F : Nat} {c : Nat → Int} (h : CR C F c) {t v : Nat} (ht : t < F) (hv : v < 16) : numS c t v = numS C t v := by
  unfold numS
  rw [h t v ht hv]
  by_cases q : v = 0
  · rw [if_pos q, if_pos q]
  · rw [if_neg q, if_neg q, show 16 * t + v - 1 = 16 * t + (v - 1) by omega, h t (v - 1) ht (by omega)]
theorem apartC_ok {N F : Nat} {C c : Nat → Int} {t u : Nat} (h : CR C F c) (hC : RowB C) (hF : F ≤ 24) (ht : t < F) (hu : u < F) (hN : 20 < N) : Ok (fX12_apartBy N c t u) (fun r => r = gapS C t u ∧ 0 ≤ r ∧ r ≤ 1024) := by
  refine (apartT_ok (by omega) (by omega) hN (h.row hC hF ht) (h.row hC hF hu)).mono (fun r hr => ?_)
  have hb := gapS_b hC (show t < 24 by omega) (show u < 24 by omega)
  rw [h.gap ht hu] at hr
  exact ⟨hr, by omega, by omega⟩
theorem gapC_ok {N F : Nat} {C c : Nat → Int} {t u : Nat} (h : CR C F c) (hC : RowB C) (hB : RowB c) (hF : F ≤ 24) (ht : t < F) (hu : u < F) (hN : 20 < N) : Ok (fX9_gap N c t u) (fun r => r = gapS C t u ∧ 0 ≤ r ∧ r ≤ 1024) := by
  refine (gap_ok (by omega) (by omega) hN hB).mono (fun r hr => ?_)
  have hb := gapS_b hC (show t < 24 by omega) (show u < 24 by omega)
  rw [h.gap ht hu] at hr
  exact ⟨hr, by omega, by omega⟩
theorem awS_b {C : Nat → Int} (hC : RowB C) {a n f : Nat} (hf : f < 24) (han : a + n ≤ 24) : 0 ≤ awS C a n f ∧ awS C a n f ≤ 24576 := by
  have h := sI_bound (f := fun k => gapS C f (a + k)) (c := 1024) (n := n) (fun k hk => gapS_b hC hf (by omega))
  unfold awS; omega
theorem awayFrom_ok {N F : Nat} {C c : Nat → Int} {f a e : Nat} (h : CR C F c) (hC : RowB C) (hF : F ≤ 24) (hf : f < F) (ha : a ≤ e) (he : e < F) (hN : 40 < N) : Ok (fX12_awayFrom N c f a e) (fun r => r = awS C a (e + 1 - a) f) := by
  unfold fX12_awayFrom
  refine Ok.loop (fun m i s => fX12_awayFrom_L6 N c f a e (fX12_awayFrom_j33 N c f a e) m s ((a + i : Nat) : Int)) (e + 1 - a) (fun i s => s = sI (fun k => gapS C f (a + k)) i) _ ?_ ?_ N 0 0 (by omega) (by omega) rfl
  · intro m i s hi hI ih
    show Ok (fX12_awayFrom_b6 N c f a e _ _ s ((a + i : Nat) : Int)) _
    unfold fX12_awayFrom_b6
    refine Ok.ltn (by omega) (Ok.bind (apartC_ok h hC hF hf (by omega) (by omega)) (fun r hr => ?_))
    exact ih _ (by rw [sI_succ, ← hI, hr.1])
  · intro m s hI
    show Ok (fX12_awayFrom_b6 N c f a e _ _ s ((a + (e + 1 - a) : Nat) : Int)) _
    unfold fX12_awayFrom_b6
    exact Ok.ltp (by omega) (Ok.ret hI)
theorem midst_ok {N F : Nat} {C c : Nat → Int} {a e : Nat} (h : CR C F c) (hC : RowB C) (hF : F ≤ 24) (ha : a ≤ e) (he : e < F) (hN : 40 < N) : Ok (fX12_midst N c a e) (fun r => r = (mdS (awS C a (e + 1 - a)) a (e - a) : Int)) := by
  unfold fX12_midst
  refine Ok.loop (fun m i s => fX12_midst_L7 N c a e (fX12_midst_j40 N c a e) m s ((a + 1 + i : Nat) : Int)) (e - a) (fun i s => s = (mdS (awS C a (e + 1 - a)) a i : Int)) _ ?_ ?_ N 0 a (by omega) (by omega) rfl
  · intro m i s hi hI ih
    have hb := mdS_b (awS C a (e + 1 - a)) a i
    show Ok (fX12_midst_b7 N c a e _ _ s ((a + 1 + i : Nat) : Int)) _
    unfold fX12_midst_b7
    rw [hI]
    refine Ok.ltn (by omega) (Ok.bind (awayFrom_ok h hC hF (by omega) ha he hN) (fun r1 h1 => Ok.bind (awayFrom_ok h hC hF (by omega) ha he hN) (fun r2 h2 => ?_)))
    have b1 := awS_b hC (a := a) (n := e + 1 - a) (show a + 1 + i < 24 by omega) (by omega)
    have b2 := awS_b hC (a := a) (n := e + 1 - a) (show mdS (awS C a (e + 1 - a)) a i < 24 by omega) (by omega)
    rw [h1, h2]
    refine Ok.lt (by omega) (fun q => ?_) (fun q => ?_)
    · refine ih _ ?_
      rw [mdS_succ, show a + i + 1 = a + 1 + i by omega, if_pos q]
    · refine ih _ ?_
      rw [mdS_succ, show a + i + 1 = a + 1 + i by omega, if_neg (by omega)]
  · intro m s hI
    show Ok (fX12_midst_b7 N c a e _ _ s ((a + 1 + (e - a) : Nat) : Int)) _
    unfold fX12_midst_b7
    exact Ok.ltp (by omega) (Ok.ret hI)
/-- the reference's row of beginnings -/
def BeR (b : Nat → Bool) (F : Nat) (be : Nat → Int) : Prop := ∀ t, t < F → be t = if b t then 1 else 0
theorem BeR.cases {b : Nat → Bool} {F : Nat} {be : Nat → Int} (h : BeR b F be) {t : Nat} (ht : t < F) : (b t = true ∧ be t = 1) ∨ (b t = false ∧ be t = 0) := by
  have e1 := h t ht
  cases q : b t with
  | true => rw [q] at e1; exact Or.inl ⟨rfl, e1⟩
  | false => rw [q] at e1; exact Or.inr ⟨rfl, e1⟩
theorem scenes_ok {N F : Nat} {b : Nat → Bool} {s be : Nat → Int} (h : BeR b F be) (hF : F ≤ 24) (s2 : s 2 = (F : Int)) (hN : 40 < N) : Ok (fX12_scenes N s be) (fun r => r = (ctB b F : Int)) := by
  unfold fX12_scenes
  refine Ok.loop (fun m i x => fX12_scenes_L4 N s be (fX12_scenes_j37 N s be) m x (i : Int)) F (fun i x => x = (ctB b i : Int)) _ ?_ ?_ N 0 0 (by omega) (by omega) rfl
  · intro m i x hi hI ih
    show Ok (fX12_scenes_b4 N s be _ _ x (i : Int)) _
    unfold fX12_scenes_b4
    rw [(show ((2 : Int)).toNat = 2 from rfl), s2, Int.toNat_natCast]
    refine Ok.gd (by omega) (Ok.ltp (by omega) (Ok.gd (by omega) ?_))
    rcases h.cases hi with ⟨q1, q2⟩ | ⟨q1, q2⟩
    · rw [q2]
      exact Ok.eqn (by omega) (ih _ (by rw [ctB_succ, if_pos q1, hI]; rfl))
    · rw [q2]
      exact Ok.eqp rfl (ih _ (by rw [ctB_succ, q1, hI]; rfl))
  · intro m x hI
    show Ok (fX12_scenes_b4 N s be _ _ x (F : Int)) _
    unfold fX12_scenes_b4
    rw [(show ((2 : Int)).toNat = 2 from rfl), s2]
    exact Ok.gd (by omega) (Ok.ltn (by omega) (Ok.ret hI))
theorem sceneOf_ok {N F t : Nat} {b : Nat → Bool} {be : Nat → Int} (h : BeR b F be) (hF : F ≤ 24) (ht : t < F) (hN : 40 < N) : Ok (fX12_sceneOf N be t) (fun r => r = (ctB b (t + 1) : Int) - 1) := by
  unfold fX12_sceneOf
  refine Ok.loop (fun m i x => fX12_sceneOf_L4 N be t (fX12_sceneOf_j32 N be t) m x (i : Int)) (t + 1) (fun i x => x = (ctB b i : Int) - 1) _ ?_ ?_ N 0 (-1) (by omega) (by omega) rfl
  · intro m i x hi hI ih
    show Ok (fX12_sceneOf_b4 N be t _ _ x (i : Int)) _
    unfold fX12_sceneOf_b4
    rw [Int.toNat_natCast]
    refine Ok.ltn (by omega) (Ok.gd (by omega) ?_)
    rcases h.cases (show i < F by omega) with ⟨q1, q2⟩ | ⟨q1, q2⟩
    · rw [q2]
      exact Ok.eqn (by omega) (ih _ (by rw [ctB_succ, if_pos q1, hI]; omega))
    · rw [q2]
      exact Ok.eqp rfl (ih _ (by rw [ctB_succ, q1, hI]; simp))
  · intro m x hI
    show Ok (fX12_sceneOf_b4 N be t _ _ x ((t + 1 : Nat) : Int)) _
    unfold fX12_sceneOf_b4
    exact Ok.ltp (by omega) (Ok.ret hI)
theorem firstOf_ok {N F a : Nat} {b : Nat → Bool} {be : Nat → Int} (h : BeR b F be) (hF : F ≤ 24) (ha : a < F) (hb : b a = true) (hN : 40 < N) : Ok (fX12_firstOfScene N be (ctB b a : Int)) (fun r => r = (a : Int)) := by
  unfold fX12_firstOfScene
  have hle := ctB_le b a
  refine Ok.loop (fun m i (_ : Unit) => fX12_firstOfScene_L2 N be (ctB b a : Int) (fX12_firstOfScene_j17 N be (ctB b a : Int)) m (i : Int)) a (fun i _ => True) _ ?_ ?_ N 0 () (by omega) (by omega) trivial
  · intro m i x hi hI ih
    have hm := ctB_mono b (show i + 1 ≤ a by omega)
    show Ok (fX12_firstOfScene_b2 N be (ctB b a : Int) _ _ (i : Int)) _
    unfold fX12_firstOfScene_b2
    refine Ok.bind (sceneOf_ok h hF (show i < F by omega) hN) (fun r hr => ?_)
    rw [hr]
    exact Ok.ltp (by omega) (ih () trivial)
  · intro m x hI
    show Ok (fX12_firstOfScene_b2 N be (ctB b a : Int) _ _ (a : Int)) _
    unfold fX12_firstOfScene_b2
    refine Ok.bind (sceneOf_ok h hF ha hN) (fun r hr => ?_)
    rw [hr, ctB_succ, if_pos hb]
    exact Ok.ltn (by omega) (Ok.ret rfl)
theorem keyOf_ok {N F a : Nat} {b : Nat → Bool} {s be C c : Nat → Int} (h : BeR b F be) (hc : CR C F c) (hC : RowB C) (hF : F ≤ 24) (s2 : s 2 = (F : Int)) (ha : a < F) (h0 : b 0 = true) (hb : b a = true) (hN : 40 < N) : Ok (fX12_keyOf N be s c (ctB b a : Int)) (fun r => r = (kyS b C F a : Int)) := by
  unfold fX12_keyOf
  have hl := lsS_spec (b := b) F ha
  have hs := stS_self hb
  refine Ok.bind (firstOf_ok h hF ha hb hN) (fun r hr => ?_)
  rw [hr]
  refine Ok.loop (fun m i (_ : Unit) => fX12_keyOf_L8 N be s c (ctB b a : Int) (fX12_keyOf_j37 N be s c (ctB b a : Int)) m (a : Int) (i : Int)) (lsS b a F) (fun i _ => a ≤ i) _ ?_ ?_ N a () (by omega) (by omega) (by omega)
  · intro m i x hi hI ih
    show Ok (fX12_keyOf_b8 N be s c (ctB b a : Int) _ _ (a : Int) (i : Int)) _
    unfold fX12_keyOf_b8
    have e1 : ((i : Int) + 1).toNat = i + 1 := by omega
    rw [(show ((2 : Int)).toNat = 2 from rfl), s2, e1]
    refine Ok.gd (by omega) (Ok.ltp (by omega) (Ok.gd (by omega) ?_))
    have hz : b (i + 1) = false := by
      have s1 := (same_iff h0 ha (u := i + 1) (by omega)).mpr (by rw [hs]; omega)
      have s2 := (same_iff h0 ha (u := i) (by omega)).mpr (by rw [hs]; omega)
      have e2 := ctB_succ b (i + 1)
      by_cases z : b (i + 1) = true
      · rw [if_pos z] at e2; omega
      · exact Bool.eq_false_iff.mpr z
    have hbe := h (i + 1) (by omega)
    rw [hz] at hbe
    rw [show be (i + 1) = 0 from hbe]
    exact Ok.eqp rfl (ih () (by omega))
  · intro m x hI
    show Ok (fX12_keyOf_b8 N be s c (ctB b a : Int) _ _ (a : Int) ((lsS b a F : Nat) : Int)) _
    unfold fX12_keyOf_b8
    have e1 : ((lsS b a F : Int) + 1).toNat = lsS b a F + 1 := by omega
    rw [(show ((2 : Int)).toNat = 2 from rfl), s2, e1]
    refine Ok.gd (by omega) ?_
    have hkk : Ok (fX12_keyOf_j37 N be s c (ctB b a : Int) (a : Int) ((lsS b a F : Nat) : Int)) (fun r => r = (kyS b C F a : Int)) := by
      unfold fX12_keyOf_j37
      refine Ok.bind (midst_ok hc hC hF hl.1 hl.2.1 hN) (fun r6 h6 => Ok.ret ?_)
      rw [h6]; unfold kyS; rw [hs]
    rcases (ls_next (b := b) ha).2 with z | ⟨z1, z2⟩
    · exact Ok.ltn (by omega) hkk
    · have hbe := h _ z1
      rw [z2] at hbe
      rw [show be (lsS b a F + 1) = 1 from hbe]
      exact Ok.ltp (by omega) (Ok.gd (by omega) (Ok.eqn (by omega) hkk))
end P6
