/-! ===== java/util/Arrays.fill([II)V ===== -/
abbrev rmJ7_fill_53178 : Room := { frames := 0, cells := 0, slots := 0, locals := 0 }
abbrev wJ7_fill_53178 (cA : Nat → ClassId) (h_a1 n_a1 : Nat) (f_a1 : Nat → Int) : va_W := [(h_a1, zA (cA 0) n_a1 f_a1)]
def fJ7_fill_53178_b5 (N : Nat) (n_a1 : Nat) (x2 : Int) (rec : Int → Int → (Nat → Int) → Option ((Nat → Int))) (k : (Nat → Int) → Option ((Nat → Int))) (i2 : Int) (i3 : Int) (f_a1 : Nat → Int) : Option ((Nat → Int)) := (if iZ i2 < iZ i3 then (gd ((0 : Int) ≤ i2 ∧ i2 < n_a1) (rec (i2 + 1) i3 (uZ f_a1 i2.toNat x2))) else (k f_a1))
def fJ7_fill_53178_L5 (N : Nat) (n_a1 : Nat) (x2 : Int) (k : (Nat → Int) → Option ((Nat → Int))) : Nat → Int → Int → (Nat → Int) → Option ((Nat → Int))
  | 0 => fun _ _ _ => none
  | n + 1 => fJ7_fill_53178_b5 N n_a1 x2 (fJ7_fill_53178_L5 N n_a1 x2 k n) k
def fJ7_fill_53178_j20 (N : Nat) (n_a1 : Nat) (x2 : Int) (f_a1 : Nat → Int) : Option ((Nat → Int)) := (some f_a1)
def fJ7_fill_53178 (N : Nat) (n_a1 : Nat) (f_a1 : Nat → Int) (x2 : Int) : Option ((Nat → Int)) := (fJ7_fill_53178_L5 N n_a1 x2 (fJ7_fill_53178_j20 N n_a1 x2) N 0 ((n_a1 : Int)) f_a1)
abbrev kJ7_fill_53178 (p : Program) (l : Launch) (e : Env) (s : State) (m : MethodId) (args : Array Value) (below : List Frame) (meth : Method) (c : Code) (Q : State → Prop) (G : ZG) (D : va_G) (cA : Nat → ClassId) (A : Nat → Prop) (h_a1 n_a1 : Nat) (x2 : Int) (N : Nat) (r : (Nat → Int)) : Prop := ∀ (pc : Nat) (H : Heap) (locs : List Loc) (ls : Array Slot), decode cJ7_fill_53178 pc = .ok (.return_, 1) → va_P D vwCl (wJ7_fill_53178 cA h_a1 n_a1 r) H → va_D A (wJ7_fill_53178 cA h_a1 n_a1 r) → va_S A s.heap H locs → W p l e rmJ7_fill_53178 s m args below meth c H locs 0 0 Q (F0 m pc ls [])
abbrev sJ7_fill_53178_20 (p : Program) (l : Launch) (e : Env) (s : State) (m : MethodId) (args : Array Value) (below : List Frame) (meth : Method) (c : Code) (Q : State → Prop) (G : ZG) (D : va_G) (cA : Nat → ClassId) (A : Nat → Prop) (h_a1 n_a1 : Nat) (x2 : Int) (N : Nat) (f_a1 : Nat → Int) : Prop := ∀ (H : Heap) (locs : List Loc), va_P D vwCl (wJ7_fill_53178 cA h_a1 n_a1 f_a1) H → va_D A (wJ7_fill_53178 cA h_a1 n_a1 f_a1) → va_S A s.heap H locs → ∀ ls : Array Slot, lv_has ls 4 [] → W p l e rmJ7_fill_53178 s m args below meth c H locs 0 0 Q (F0 m 20 ls [])
abbrev sJ7_fill_53178_5 (p : Program) (l : Launch) (e : Env) (s : State) (m : MethodId) (args : Array Value) (below : List Frame) (meth : Method) (c : Code) (Q : State → Prop) (G : ZG) (D : va_G) (cA : Nat → ClassId) (A : Nat → Prop) (h_a1 n_a1 : Nat) (x2 : Int) (N : Nat) (i2 : Int) (i3 : Int) (f_a1 : Nat → Int) : Prop := ∀ (H : Heap) (locs : List Loc), va_P D vwCl (wJ7_fill_53178 cA h_a1 n_a1 f_a1) H → va_D A (wJ7_fill_53178 cA h_a1 n_a1 f_a1) → va_S A s.heap H locs → ∀ ls : Array Slot, lv_has ls 4 [(0, .ref h_a1), (1, .int (iZ x2)), (2, .int (iZ i2)), (3, .int (iZ i3))] → W p l e rmJ7_fill_53178 s m args below meth c H locs 0 0 Q (F0 m 5 ls [])
set_option maxHeartbeats 4000000 in
set_option maxRecDepth 100000 in
theorem wJ7_fill_53178_b5 (p : Program) (l : Launch) (e : Env) (s : State) (m : MethodId) (args : Array Value) (below : List Frame) (meth : Method) (c : Code) (Q : State → Prop) (G : ZG) (D : va_G) (cA : Nat → ClassId) (A : Nat → Prop) (h_a1 n_a1 : Nat) (x2 : Int) (N : Nat) (C : CallFix p m c cJ7_fill_53178 4 s args vJ7_fill_53178 RJ7) (hK : va_K D vwCl (zT cA) s) (hA : ∀ q, s.heap.size ≤ q → A q) (hZ : zSt G A s s.heap) (hln : n_a1 ≤ 2147483648) (r : (Nat → Int)) (kr : kJ7_fill_53178 p l e s m args below meth c Q G D cA A h_a1 n_a1 x2 N r) (rec : Int → Int → (Nat → Int) → Option ((Nat → Int))) (k : (Nat → Int) → Option ((Nat → Int))) (hrec : ∀ (i2 : Int) (i3 : Int) (f_a1 : Nat → Int), rec i2 i3 f_a1 = some r → sJ7_fill_53178_5 p l e s m args below meth c Q G D cA A h_a1 n_a1 x2 N i2 i3 f_a1) (hk : ∀ (f_a1 : Nat → Int), k f_a1 = some r → sJ7_fill_53178_20 p l e s m args below meth c Q G D cA A h_a1 n_a1 x2 N f_a1) (i2 : Int) (i3 : Int) (f_a1 : Nat → Int) (h : fJ7_fill_53178_b5 N n_a1 x2 rec k i2 i3 f_a1 = some r) : sJ7_fill_53178_5 p l e s m args below meth c Q G D cA A h_a1 n_a1 x2 N i2 i3 f_a1 := by
  obtain ⟨hx, hb, hml, hown, hts⟩ := id C
  have hq : ∀ w ∈ wAll, w.before args s = true := fun w h => hts w (List.mem_cons_of_mem _ h)
  intro H locs hP hD hS ls hl
  unfold fJ7_fill_53178_b5 at h
  refine lv_iload_n hx hb dJ7_fill_53178_5 rfl (lv_at hl 2 rfl) ?_
  refine lv_iload_n hx hb dJ7_fill_53178_6 rfl (lv_at hl 3 rfl) ?_
  refine z_icmp_ge (tgt := 20) hx hb dJ7_fill_53178_7 (by decide) (fun c1 => ?_) (fun c1 => ?_)
  · rw [if_neg c1] at h
    exact hk f_a1 h H locs hP hD hS ls (lv_sub hl [] rfl)
  · rw [if_pos c1] at h
    refine lv_aload_n hx hb dJ7_fill_53178_10 rfl (lv_at hl 0 rfl) ?_
    refine lv_iload_n hx hb dJ7_fill_53178_11 rfl (lv_at hl 2 rfl) ?_
    refine lv_iload_n hx hb dJ7_fill_53178_12 rfl (lv_at hl 1 rfl) ?_
    obtain ⟨g2, h⟩ := gd_some h
    refine z_iast (ws' := (wJ7_fill_53178 cA h_a1 n_a1 (uZ f_a1 i2.toNat x2))) hx hb hK hP hD hS 0 0 rfl rfl hln g2 rfl dJ7_fill_53178_13 (fun H locs hP hD hS => ?_)
    refine z_iinc (lv' := [(2, .int (iZ (i2 + 1))), (0, .ref h_a1), (1, .int (iZ x2)), (3, .int (iZ i3))]) hx hb dJ7_fill_53178_14 hl (k := 2) rfl (by decide) rfl (fun ls hl => ?_)
    refine lv_goto (tgt := 5) hx hb dJ7_fill_53178_17 (by decide) ?_
    exact hrec (i2 + 1) i3 (uZ f_a1 i2.toNat x2) h H locs hP hD hS ls (lv_sub hl [1, 2, 0, 3] rfl)
theorem wJ7_fill_53178_L5 (p : Program) (l : Launch) (e : Env) (s : State) (m : MethodId) (args : Array Value) (below : List Frame) (meth : Method) (c : Code) (Q : State → Prop) (G : ZG) (D : va_G) (cA : Nat → ClassId) (A : Nat → Prop) (h_a1 n_a1 : Nat) (x2 : Int) (N : Nat) (C : CallFix p m c cJ7_fill_53178 4 s args vJ7_fill_53178 RJ7) (hK : va_K D vwCl (zT cA) s) (hA : ∀ q, s.heap.size ≤ q → A q) (hZ : zSt G A s s.heap) (hln : n_a1 ≤ 2147483648) (r : (Nat → Int)) (kr : kJ7_fill_53178 p l e s m args below meth c Q G D cA A h_a1 n_a1 x2 N r) (k : (Nat → Int) → Option ((Nat → Int))) (hk : ∀ (f_a1 : Nat → Int), k f_a1 = some r → sJ7_fill_53178_20 p l e s m args below meth c Q G D cA A h_a1 n_a1 x2 N f_a1) : ∀ (n : Nat) (i2 : Int) (i3 : Int) (f_a1 : Nat → Int), fJ7_fill_53178_L5 N n_a1 x2 k n i2 i3 f_a1 = some r → sJ7_fill_53178_5 p l e s m args below meth c Q G D cA A h_a1 n_a1 x2 N i2 i3 f_a1 := by
  intro n
  induction n with
  | zero =>
    intro i2 i3 f_a1 h
    have h : none = some r := h
    cases h
  | succ n ih =>
    intro i2 i3 f_a1 h
    exact wJ7_fill_53178_b5 p l e s m args below meth c Q G D cA A h_a1 n_a1 x2 N C hK hA hZ hln r kr (fJ7_fill_53178_L5 N n_a1 x2 k n) k ih hk i2 i3 f_a1 h
set_option maxHeartbeats 4000000 in
set_option maxRecDepth 100000 in
theorem wJ7_fill_53178_j20 (p : Program) (l : Launch) (e : Env) (s : State) (m : MethodId) (args : Array Value) (below : List Frame) (meth : Method) (c : Code) (Q : State → Prop) (G : ZG) (D : va_G) (cA : Nat → ClassId) (A : Nat → Prop) (h_a1 n_a1 : Nat) (x2 : Int) (N : Nat) (C : CallFix p m c cJ7_fill_53178 4 s args vJ7_fill_53178 RJ7) (hK : va_K D vwCl (zT cA) s) (hA : ∀ q, s.heap.size ≤ q → A q) (hZ : zSt G A s s.heap) (hln : n_a1 ≤ 2147483648) (r : (Nat → Int)) (kr : kJ7_fill_53178 p l e s m args below meth c Q G D cA A h_a1 n_a1 x2 N r) (f_a1 : Nat → Int) (h : fJ7_fill_53178_j20 N n_a1 x2 f_a1 = some r) : sJ7_fill_53178_20 p l e s m args below meth c Q G D cA A h_a1 n_a1 x2 N f_a1 := by
  obtain ⟨hx, hb, hml, hown, hts⟩ := id C
  have hq : ∀ w ∈ wAll, w.before args s = true := fun w h => hts w (List.mem_cons_of_mem _ h)
  intro H locs hP hD hS ls hl
  unfold fJ7_fill_53178_j20 at h
  cases h
  exact kr _ _ _ _ dJ7_fill_53178_20 hP hD hS
set_option maxHeartbeats 4000000 in
set_option maxRecDepth 100000 in
theorem wJ7_fill_53178_E (p : Program) (l : Launch) (e : Env) (s : State) (m : MethodId) (args : Array Value) (below : List Frame) (meth : Method) (c : Code) (Q : State → Prop) (G : ZG) (D : va_G) (cA : Nat → ClassId) (A : Nat → Prop) (h_a1 n_a1 : Nat) (x2 : Int) (N : Nat) (C : CallFix p m c cJ7_fill_53178 4 s args vJ7_fill_53178 RJ7) (hK : va_K D vwCl (zT cA) s) (hA : ∀ q, s.heap.size ≤ q → A q) (hZ : zSt G A s s.heap) (hln : n_a1 ≤ 2147483648) (r : (Nat → Int)) (kr : kJ7_fill_53178 p l e s m args below meth c Q G D cA A h_a1 n_a1 x2 N r) (f_a1 : Nat → Int) (h : fJ7_fill_53178 N n_a1 f_a1 x2 = some r) (H : Heap) (locs : List Loc) (hP : va_P D vwCl (wJ7_fill_53178 cA h_a1 n_a1 f_a1) H) (hD : va_D A (wJ7_fill_53178 cA h_a1 n_a1 f_a1)) (hS : va_S A s.heap H locs) (ls : Array Slot) (hl : lv_has ls 4 [(0, .ref h_a1), (1, .int (iZ x2))]) : W p l e rmJ7_fill_53178 s m args below meth c H locs 0 0 Q (F0 m 0 ls []) := by
  obtain ⟨hx, hb, hml, hown, hts⟩ := id C
  have hq : ∀ w ∈ wAll, w.before args s = true := fun w h => hts w (List.mem_cons_of_mem _ h)
  unfold fJ7_fill_53178 at h
  refine z_iconst hx hb dJ7_fill_53178_0 ?_
  refine lv_istore_n (lv' := [(2, .int (iZ 0)), (0, .ref h_a1), (1, .int (iZ x2))]) hx hb dJ7_fill_53178_1 rfl hl (by decide) rfl (fun ls hl => ?_)
  refine lv_aload_n hx hb dJ7_fill_53178_2 rfl (lv_at hl 1 rfl) ?_
  refine z_alen hx hb hK hP 0 0 rfl rfl dJ7_fill_53178_3 ?_
  refine lv_istore_n (lv' := [(3, .int (iZ ((n_a1 : Int)))), (2, .int (iZ 0)), (0, .ref h_a1), (1, .int (iZ x2))]) hx hb dJ7_fill_53178_4 rfl hl (by decide) rfl (fun ls hl => ?_)
  exact wJ7_fill_53178_L5 p l e s m args below meth c Q G D cA A h_a1 n_a1 x2 N C hK hA hZ hln r kr (fJ7_fill_53178_j20 N n_a1 x2) (fun y0 h9 => wJ7_fill_53178_j20 p l e s m args below meth c Q G D cA A h_a1 n_a1 x2 N C hK hA hZ hln r kr y0 h9) N 0 ((n_a1 : Int)) f_a1 h H locs hP hD hS ls (lv_sub hl [2, 3, 1, 0] rfl)
set_option maxHeartbeats 4000000 in
set_option maxRecDepth 100000 in
theorem cJ7_fill_53178_m (l : Launch) (G : ZG) (D : va_G) (cA : Nat → ClassId) (h_a1 n_a1 : Nat) (f_a1 : Nat → Int) (x2 : Int) (sz N : Nat) (hln : n_a1 ≤ 2147483648) {r : (Nat → Int)} (hF : fJ7_fill_53178 N n_a1 f_a1 x2 = some r) : zMv l yJ7_fill_53178 vJ7_fill_53178 rmJ7_fill_53178 G D cA [.ref h_a1, .int (iZ x2)] (wJ7_fill_53178 cA h_a1 n_a1 f_a1) (wJ7_fill_53178 cA h_a1 n_a1 r) sz := by
  refine Met.ofW (cc := cJ7_fill_53178) (maxL := 4) (ret := none) (by decide) rfl ?_
  intro p e s m args below meth c s₁ B hml hv
  obtain ⟨rfl, hsz, hP, hK, hD0, hZ⟩ := hv
  subst hsz
  have hlocks := B.notSynchronized
  have hl := lv_entry ([.ref h_a1, .int (iZ x2)]) (n := 4) (Nat.le_of_ble_eq_true rfl)
  rw [lg_entry_eq]
  generalize (lg_sl ([.ref h_a1, .int (iZ x2)]) ++ List.replicate (4 - (lg_sl ([.ref h_a1, .int (iZ x2)])).length) Slot.unset).toArray = ls at hl ⊢
  exact wJ7_fill_53178_E p l e s m _ below meth c _ G D cA _ h_a1 n_a1 x2 N ⟨B.exec, B.bytes, hml, findClass_of_methodNamed B.named, atoms_spec (ws := vJ7_fill_53178) B.pre⟩ hK (fun q h => Or.inr h) hZ hln r (fun pc H locs ls hd hP hD hS => W.vret B.exec B.bytes B.returns (fun t ht hW => ⟨⟨(), rfl, trivial, by rw [ht]; exact hP, va_K.moved hW.alike hK, hD⟩, hS.F ht⟩) hS.2.2 hd) f_a1 hF s.heap [] hP (hD0.self (sz := s.heap.size)) va_S.rf ls hl

/-! ===== FlickerDesk$Film.clear()V ===== -/
abbrev rmX2_clear : Room := { frames := 1, cells := 0, slots := 0, locals := 60 }
abbrev wX2_clear (cA : Nat → ClassId) (h_t h_t_cuts h_t_skips h_t_weights h_t_settings h_t_dots : Nat) (v_t_wide : Int) (v_t_high : Int) (v_t_frames : Int) (f_t_cuts : Nat → Int) (f_t_skips : Nat → Int) (f_t_weights : Nat → Int) (f_t_settings : Nat → Int) : va_W := [(h_t, .inr (2, [.ref h_t_dots, .ref h_t_cuts, .ref h_t_skips, .ref h_t_settings, .ref h_t_weights, .int (iZ v_t_wide), .int (iZ v_t_high), .int (iZ v_t_frames)])), (h_t_cuts, zA (cA 0) 24 f_t_cuts), (h_t_skips, zA (cA 0) 24 f_t_skips), (h_t_weights, zA (cA 0) 4 f_t_weights), (h_t_settings, zA (cA 0) 6 f_t_settings)]
def fX2_clear (N : Nat) (v_t_wide : Int) (v_t_high : Int) (v_t_frames : Int) (f_t_cuts : Nat → Int) (f_t_skips : Nat → Int) (f_t_weights : Nat → Int) (f_t_settings : Nat → Int) : Option (Int × Int × Int × (Nat → Int) × (Nat → Int) × (Nat → Int) × (Nat → Int)) := ((fJ7_fill_53178 N 24 f_t_cuts 0).bind fun r1 => ((fJ7_fill_53178 N 24 f_t_skips 0).bind fun r2 => ((fJ7_fill_53178 N 4 f_t_weights 1).bind fun r3 => (gd ((0 : Int) ≤ (0 : Int) ∧ (0 : Int) ≤ (0 : Int) ∧ (0 : Int) ≤ (6 : Int) ∧ ((0 : Int)) + ((6 : Int)) ≤ 6 ∧ ((0 : Int)) + ((6 : Int)) ≤ 6) (some ((4, 4, 0, r1, r2, r3, cpZ usZ f_t_settings (0 : Int).toNat (0 : Int).toNat (6 : Int).toNat)))))))
abbrev kX2_clear (p : Program) (l : Launch) (e : Env) (s : State) (m : MethodId) (args : Array Value) (below : List Frame) (meth : Method) (c : Code) (Q : State → Prop) (G : ZG) (D : va_G) (cA : Nat → ClassId) (A : Nat → Prop) (h_t h_t_cuts h_t_skips h_t_weights h_t_settings h_t_dots : Nat) (N : Nat) (r : Int × Int × Int × (Nat → Int) × (Nat → Int) × (Nat → Int) × (Nat → Int)) : Prop := ∀ (pc : Nat) (H : Heap) (locs : List Loc) (ls : Array Slot), decode cX2_clear pc = .ok (.return_, 1) → va_P D vwCl (wX2_clear cA h_t h_t_cuts h_t_skips h_t_weights h_t_settings h_t_dots r.1 r.2.1 r.2.2.1 r.2.2.2.1 r.2.2.2.2.1 r.2.2.2.2.2.1 r.2.2.2.2.2.2) H → va_D A (wX2_clear cA h_t h_t_cuts h_t_skips h_t_weights h_t_settings h_t_dots r.1 r.2.1 r.2.2.1 r.2.2.2.1 r.2.2.2.2.1 r.2.2.2.2.2.1 r.2.2.2.2.2.2) → va_S A s.heap H locs → W p l e rmX2_clear s m args below meth c H locs 0 0 Q (F0 m pc ls [])
set_option maxHeartbeats 4000000 in
set_option maxRecDepth 100000 in
theorem wX2_clear_E (p : Program) (l : Launch) (e : Env) (s : State) (m : MethodId) (args : Array Value) (below : List Frame) (meth : Method) (c : Code) (Q : State → Prop) (G : ZG) (D : va_G) (cA : Nat → ClassId) (A : Nat → Prop) (h_t h_t_cuts h_t_skips h_t_weights h_t_settings h_t_dots : Nat) (N : Nat) (C : CallFix p m c cX2_clear 1 s args vX2_clear RX2) (hK : va_K D vwCl (zT cA) s) (hA : ∀ q, s.heap.size ≤ q → A q) (hZ : zSt G A s s.heap) (r : Int × Int × Int × (Nat → Int) × (Nat → Int) × (Nat → Int) × (Nat → Int)) (kr : kX2_clear p l e s m args below meth c Q G D cA A h_t h_t_cuts h_t_skips h_t_weights h_t_settings h_t_dots N r) (v_t_wide : Int) (v_t_high : Int) (v_t_frames : Int) (f_t_cuts : Nat → Int) (f_t_skips : Nat → Int) (f_t_weights : Nat → Int) (f_t_settings : Nat → Int) (h : fX2_clear N v_t_wide v_t_high v_t_frames f_t_cuts f_t_skips f_t_weights f_t_settings = some r) (H : Heap) (locs : List Loc) (hP : va_P D vwCl (wX2_clear cA h_t h_t_cuts h_t_skips h_t_weights h_t_settings h_t_dots v_t_wide v_t_high v_t_frames f_t_cuts f_t_skips f_t_weights f_t_settings) H) (hD : va_D A (wX2_clear cA h_t h_t_cuts h_t_skips h_t_weights h_t_settings h_t_dots v_t_wide v_t_high v_t_frames f_t_cuts f_t_skips f_t_weights f_t_settings)) (hS : va_S A s.heap H locs) (ls : Array Slot) (hl : lv_has ls 1 [(0, .ref h_t)]) : W p l e rmX2_clear s m args below meth c H locs 0 0 Q (F0 m 0 ls []) := by
  obtain ⟨hx, hb, hml, hown, hts⟩ := id C
  have hq : ∀ w ∈ wAll, w.before args s = true := fun w h => hts w (List.mem_cons_of_mem _ h)
  unfold fX2_clear at h
  refine lv_aload_n hx hb dX2_clear_0 rfl (lv_at hl 0 rfl) ?_
  refine z_iconst hx hb dX2_clear_1 ?_
  refine z_put (ci := 2) (v := .int (iZ 4)) (ty := .int) (C := RX2) (T := TX2) (N := 8) (ws' := (wX2_clear cA h_t h_t_cuts h_t_skips h_t_weights h_t_settings h_t_dots 4 v_t_high v_t_frames f_t_cuts f_t_skips f_t_weights f_t_settings)) hx hb hq in_wsX20 tyX2 tyX2_ok nmX2 hown hK hP hD hS 0 rfl rfl 5 (by decide) (hq _ q2) (fun _ h9 => h9) rfl (by decide +kernel) rfl rfl (Nat.le_of_ble_eq_true rfl) rfl dX2_clear_2 (fun H locs hP hD hS => ?_)
  refine lv_aload_n hx hb dX2_clear_5 rfl (lv_at hl 0 rfl) ?_
  refine z_iconst hx hb dX2_clear_6 ?_
  refine z_put (ci := 2) (v := .int (iZ 4)) (ty := .int) (C := RX2) (T := TX2) (N := 8) (ws' := (wX2_clear cA h_t h_t_cuts h_t_skips h_t_weights h_t_settings h_t_dots 4 4 v_t_frames f_t_cuts f_t_skips f_t_weights f_t_settings)) hx hb hq in_wsX20 tyX2 tyX2_ok nmX2 hown hK hP hD hS 0 rfl rfl 6 (by decide) (hq _ q3) (fun _ h9 => h9) rfl (by decide +kernel) rfl rfl (Nat.le_of_ble_eq_true rfl) rfl dX2_clear_7 (fun H locs hP hD hS => ?_)
  refine lv_aload_n hx hb dX2_clear_10 rfl (lv_at hl 0 rfl) ?_
  refine z_iconst hx hb dX2_clear_11 ?_
  refine z_put (ci := 2) (v := .int (iZ 0)) (ty := .int) (C := RX2) (T := TX2) (N := 8) (ws' := (wX2_clear cA h_t h_t_cuts h_t_skips h_t_weights h_t_settings h_t_dots 4 4 0 f_t_cuts f_t_skips f_t_weights f_t_settings)) hx hb hq in_wsX20 tyX2 tyX2_ok nmX2 hown hK hP hD hS 0 rfl rfl 7 (by decide) (hq _ q4) (fun _ h9 => h9) rfl (by decide +kernel) rfl rfl (Nat.le_of_ble_eq_true rfl) rfl dX2_clear_12 (fun H locs hP hD hS => ?_)
  refine lv_aload_n hx hb dX2_clear_15 rfl (lv_at hl 0 rfl) ?_
  refine va_get (D := D) (ci := 2) (v := .ref h_t_cuts) (C := RX2) (T := TX2) (N := 8) hx hb hq in_wsX20 hown hK hP 0 rfl rfl 1 (by decide) (hq _ q5) (fun _ h9 => h9) rfl dX2_clear_16 ?_
  refine z_iconst hx hb dX2_clear_19 ?_
  obtain ⟨r1, e1, h⟩ := bd_some h
  refine z_callSv (G := G) (D := D) (cA := cA) (wc := (wJ7_fill_53178 cA h_t_cuts 24 f_t_cuts)) (wr := [(h_t, .inr (2, [.ref h_t_dots, .ref h_t_cuts, .ref h_t_skips, .ref h_t_settings, .ref h_t_weights, .int (iZ 4), .int (iZ 4), .int (iZ 0)])), (h_t_skips, zA (cA 0) 24 f_t_skips), (h_t_weights, zA (cA 0) 4 f_t_weights), (h_t_settings, zA (cA 0) 6 f_t_settings)]) (w1 := (wJ7_fill_53178 cA h_t_cuts 24 r1)) (ws' := (wX2_clear cA h_t h_t_cuts h_t_skips h_t_weights h_t_settings h_t_dots 4 4 0 r1 f_t_skips f_t_weights f_t_settings)) (As := [.ref h_t_cuts, .int (iZ 0)]) C hK hA hZ hP hD hS [1] [0, 2, 3, 4] [0, 4, 1, 2, 3] rfl rfl rfl (by decide) (cJ7_fill_53178_m l G D cA h_t_cuts 24 f_t_cuts 0 H.size N (Nat.le_of_ble_eq_true rfl) e1) (va_cwS 2 hts (gAllS q13 q14 q15 q0) rfl rfl rfl (by decide +kernel) ⟨Nat.le_of_ble_eq_true rfl, Nat.le_of_ble_eq_true rfl⟩) rfl hl.1 rfl (Nat.le_of_ble_eq_true rfl) ⟨Nat.zero_le _, Nat.zero_le _⟩ dX2_clear_20 (fun H locs hP hD hS => ?_)
  refine lv_aload_n hx hb dX2_clear_23 rfl (lv_at hl 0 rfl) ?_
  refine va_get (D := D) (ci := 2) (v := .ref h_t_skips) (C := RX2) (T := TX2) (N := 8) hx hb hq in_wsX20 hown hK hP 0 rfl rfl 2 (by decide) (hq _ q6) (fun _ h9 => h9) rfl dX2_clear_24 ?_
  refine z_iconst hx hb dX2_clear_27 ?_
  obtain ⟨r2, e2, h⟩ := bd_some h
  refine z_callSv (G := G) (D := D) (cA := cA) (wc := (wJ7_fill_53178 cA h_t_skips 24 f_t_skips)) (wr := [(h_t, .inr (2, [.ref h_t_dots, .ref h_t_cuts, .ref h_t_skips, .ref h_t_settings, .ref h_t_weights, .int (iZ 4), .int (iZ 4), .int (iZ 0)])), (h_t_cuts, zA (cA 0) 24 r1), (h_t_weights, zA (cA 0) 4 f_t_weights), (h_t_settings, zA (cA 0) 6 f_t_settings)]) (w1 := (wJ7_fill_53178 cA h_t_skips 24 r2)) (ws' := (wX2_clear cA h_t h_t_cuts h_t_skips h_t_weights h_t_settings h_t_dots 4 4 0 r1 r2 f_t_weights f_t_settings)) (As := [.ref h_t_skips, .int (iZ 0)]) C hK hA hZ hP hD hS [2] [0, 1, 3, 4] [0, 1, 4, 2, 3] rfl rfl rfl (by decide) (cJ7_fill_53178_m l G D cA h_t_skips 24 f_t_skips 0 H.size N (Nat.le_of_ble_eq_true rfl) e2) (va_cwS 2 hts (gAllS q13 q14 q15 q0) rfl rfl rfl (by decide +kernel) ⟨Nat.le_of_ble_eq_true rfl, Nat.le_of_ble_eq_true rfl⟩) rfl hl.1 rfl (Nat.le_of_ble_eq_true rfl) ⟨Nat.zero_le _, Nat.zero_le _⟩ dX2_clear_28 (fun H locs hP hD hS => ?_)
  refine lv_aload_n hx hb dX2_clear_31 rfl (lv_at hl 0 rfl) ?_
  refine va_get (D := D) (ci := 2) (v := .ref h_t_weights) (C := RX2) (T := TX2) (N := 8) hx hb hq in_wsX20 hown hK hP 0 rfl rfl 4 (by decide) (hq _ q7) (fun _ h9 => h9) rfl dX2_clear_32 ?_
  refine z_iconst hx hb dX2_clear_35 ?_
  obtain ⟨r3, e3, h⟩ := bd_some h
  refine z_callSv (G := G) (D := D) (cA := cA) (wc := (wJ7_fill_53178 cA h_t_weights 4 f_t_weights)) (wr := [(h_t, .inr (2, [.ref h_t_dots, .ref h_t_cuts, .ref h_t_skips, .ref h_t_settings, .ref h_t_weights, .int (iZ 4), .int (iZ 4), .int (iZ 0)])), (h_t_cuts, zA (cA 0) 24 r1), (h_t_skips, zA (cA 0) 24 r2), (h_t_settings, zA (cA 0) 6 f_t_settings)]) (w1 := (wJ7_fill_53178 cA h_t_weights 4 r3)) (ws' := (wX2_clear cA h_t h_t_cuts h_t_skips h_t_weights h_t_settings h_t_dots 4 4 0 r1 r2 r3 f_t_settings)) (As := [.ref h_t_weights, .int (iZ 1)]) C hK hA hZ hP hD hS [3] [0, 1, 2, 4] [0, 1, 2, 4, 3] rfl rfl rfl (by decide) (cJ7_fill_53178_m l G D cA h_t_weights 4 f_t_weights 1 H.size N (Nat.le_of_ble_eq_true rfl) e3) (va_cwS 2 hts (gAllS q13 q14 q15 q0) rfl rfl rfl (by decide +kernel) ⟨Nat.le_of_ble_eq_true rfl, Nat.le_of_ble_eq_true rfl⟩) rfl hl.1 rfl (Nat.le_of_ble_eq_true rfl) ⟨Nat.zero_le _, Nat.zero_le _⟩ dX2_clear_36 (fun H locs hP hD hS => ?_)
  refine va_getsN (v := .ref G.1) hx hb hZ.1.1 hS hown (va_Nw.use rfl hZ.2.2.1) (fun _ h9 => h9) dX2_clear_39 ?_
  refine z_iconst hx hb dX2_clear_42 ?_
  refine lv_aload_n hx hb dX2_clear_43 rfl (lv_at hl 0 rfl) ?_
  refine va_get (D := D) (ci := 2) (v := .ref h_t_settings) (C := RX2) (T := TX2) (N := 8) hx hb hq in_wsX20 hown hK hP 0 rfl rfl 3 (by decide) (hq _ q8) (fun _ h9 => h9) rfl dX2_clear_44 ?_
  refine z_iconst hx hb dX2_clear_47 ?_
  refine z_bipush hx hb dX2_clear_48 (by decide) ?_
  obtain ⟨g4, h⟩ := gd_some h
  refine z_copyg (ws' := (wX2_clear cA h_t h_t_cuts h_t_skips h_t_weights h_t_settings h_t_dots 4 4 0 r1 r2 r3 (cpZ usZ f_t_settings (0 : Int).toNat (0 : Int).toNat (6 : Int).toNat))) hx hb (by rw [hml]; exact hl.1.symm) hown (hq _ q9) (hq _ q10) (hq _ q11) (hq _ q12) hK hP hD hS hZ.1.2.2.1 4 0 rfl rfl ⟨Nat.le_of_ble_eq_true rfl, Nat.le_of_ble_eq_true rfl⟩ g4 rfl (Nat.le_of_ble_eq_true rfl) (Nat.le_of_ble_eq_true rfl) dX2_clear_50 (fun H locs hP hD hS => ?_)
  cases h
  exact kr _ _ _ _ dX2_clear_53 hP hD hS
set_option maxHeartbeats 4000000 in
set_option maxRecDepth 100000 in
theorem cX2_clear_m (l : Launch) (G : ZG) (D : va_G) (cA : Nat → ClassId) (h_t h_t_cuts h_t_skips h_t_weights h_t_settings h_t_dots : Nat) (v_t_wide : Int) (v_t_high : Int) (v_t_frames : Int) (f_t_cuts : Nat → Int) (f_t_skips : Nat → Int) (f_t_weights : Nat → Int) (f_t_settings : Nat → Int) (sz N : Nat) {r : Int × Int × Int × (Nat → Int) × (Nat → Int) × (Nat → Int) × (Nat → Int)} (hF : fX2_clear N v_t_wide v_t_high v_t_frames f_t_cuts f_t_skips f_t_weights f_t_settings = some r) : zMv l yX2_clear vX2_clear rmX2_clear G D cA [.ref h_t] (wX2_clear cA h_t h_t_cuts h_t_skips h_t_weights h_t_settings h_t_dots v_t_wide v_t_high v_t_frames f_t_cuts f_t_skips f_t_weights f_t_settings) (wX2_clear cA h_t h_t_cuts h_t_skips h_t_weights h_t_settings h_t_dots r.1 r.2.1 r.2.2.1 r.2.2.2.1 r.2.2.2.2.1 r.2.2.2.2.2.1 r.2.2.2.2.2.2) sz := by
  refine Met.ofW (cc := cX2_clear) (maxL := 1) (ret := none) (by decide) rfl ?_
  intro p e s m args below meth c s₁ B hml hv
  obtain ⟨rfl, hsz, hP, hK, hD0, hZ⟩ := hv
  subst hsz
  have hlocks := B.notSynchronized
  have hl := lv_entry ([.ref h_t]) (n := 1) (Nat.le_of_ble_eq_true rfl)
  rw [lg_entry_eq]
  generalize (lg_sl ([.ref h_t]) ++ List.replicate (1 - (lg_sl ([.ref h_t])).length) Slot.unset).toArray = ls at hl ⊢
  exact wX2_clear_E p l e s m _ below meth c _ G D cA _ h_t h_t_cuts h_t_skips h_t_weights h_t_settings h_t_dots N ⟨B.exec, B.bytes, hml, findClass_of_methodNamed B.named, atoms_spec (ws := vX2_clear) B.pre⟩ hK (fun q h => Or.inr h) hZ r (fun pc H locs ls hd hP hD hS => W.vret B.exec B.bytes B.returns (fun t ht hW => ⟨⟨(), rfl, trivial, by rw [ht]; exact hP, va_K.moved hW.alike hK, hD⟩, hS.F ht⟩) hS.2.2 hd) v_t_wide v_t_high v_t_frames f_t_cuts f_t_skips f_t_weights f_t_settings hF s.heap [] hP (hD0.self (sz := s.heap.size)) va_S.rf ls hl

/-! ===== FlickerDesk$Film.copyDots([I)V ===== -/
abbrev rmX2_copyDots : Room := { frames := 1, cells := 0, slots := 0, locals := 60 }
abbrev wX2_copyDots (cA : Nat → ClassId) (h_t h_t_dots h_a1 h_t_cuts h_t_skips h_t_settings h_t_weights : Nat) (v_t_wide : Int) (v_t_high : Int) (v_t_frames : Int) (f_t_dots : Nat → Int) (f_a1 : Nat → Int) : va_W := [(h_t, .inr (2, [.ref h_t_dots, .ref h_t_cuts, .ref h_t_skips, .ref h_t_settings, .ref h_t_weights, .int (iZ v_t_wide), .int (iZ v_t_high), .int (iZ v_t_frames)])), (h_t_dots, zA (cA 0) 1536 f_t_dots), (h_a1, zA (cA 0) 1536 f_a1)]
def fX2_copyDots (N : Nat) (v_t_frames : Int) (f_a1 : Nat → Int) (f_t_dots : Nat → Int) : Option ((Nat → Int)) := (gd ((0 : Int) ≤ (0 : Int) ∧ (0 : Int) ≤ (0 : Int) ∧ (0 : Int) ≤ v_t_frames * 64 ∧ ((0 : Int)) + (v_t_frames * 64) ≤ 1536 ∧ ((0 : Int)) + (v_t_frames * 64) ≤ 1536) (some (cpZ f_a1 f_t_dots (0 : Int).toNat (0 : Int).toNat (v_t_frames * 64).toNat)))
abbrev kX2_copyDots (p : Program) (l : Launch) (e : Env) (s : State) (m : MethodId) (args : Array Value) (below : List Frame) (meth : Method) (c : Code) (Q : State → Prop) (G : ZG) (D : va_G) (cA : Nat → ClassId) (A : Nat → Prop) (h_t h_t_dots h_a1 h_t_cuts h_t_skips h_t_settings h_t_weights : Nat) (v_t_wide : Int) (v_t_high : Int) (v_t_frames : Int) (f_a1 : Nat → Int) (N : Nat) (r : (Nat → Int)) : Prop := ∀ (pc : Nat) (H : Heap) (locs : List Loc) (ls : Array Slot), decode cX2_copyDots pc = .ok (.return_, 1) → va_P D vwCl (wX2_copyDots cA h_t h_t_dots h_a1 h_t_cuts h_t_skips h_t_settings h_t_weights v_t_wide v_t_high v_t_frames r f_a1) H → va_D A (wX2_copyDots cA h_t h_t_dots h_a1 h_t_cuts h_t_skips h_t_settings h_t_weights v_t_wide v_t_high v_t_frames r f_a1) → va_S A s.heap H locs → W p l e rmX2_copyDots s m args below meth c H locs 0 0 Q (F0 m pc ls [])
set_option maxHeartbeats 4000000 in
set_option maxRecDepth 100000 in
theorem wX2_copyDots_E (p : Program) (l : Launch) (e : Env) (s : State) (m : MethodId) (args : Array Value) (below : List Frame) (meth : Method) (c : Code) (Q : State → Prop) (G : ZG) (D : va_G) (cA : Nat → ClassId) (A : Nat → Prop) (h_t h_t_dots h_a1 h_t_cuts h_t_skips h_t_settings h_t_weights : Nat) (v_t_wide : Int) (v_t_high : Int) (v_t_frames : Int) (f_a1 : Nat → Int) (N : Nat) (C : CallFix p m c cX2_copyDots 2 s args vX2_copyDots RX2) (hK : va_K D vwCl (zT cA) s) (hA : ∀ q, s.heap.size ≤ q → A q) (hZ : zSt G A s s.heap) (r : (Nat → Int)) (kr : kX2_copyDots p l e s m args below meth c Q G D cA A h_t h_t_dots h_a1 h_t_cuts h_t_skips h_t_settings h_t_weights v_t_wide v_t_high v_t_frames f_a1 N r) (f_t_dots : Nat → Int) (h : fX2_copyDots N v_t_frames f_a1 f_t_dots = some r) (H : Heap) (locs : List Loc) (hP : va_P D vwCl (wX2_copyDots cA h_t h_t_dots h_a1 h_t_cuts h_t_skips h_t_settings h_t_weights v_t_wide v_t_high v_t_frames f_t_dots f_a1) H) (hD : va_D A (wX2_copyDots cA h_t h_t_dots h_a1 h_t_cuts h_t_skips h_t_settings h_t_weights v_t_wide v_t_high v_t_frames f_t_dots f_a1)) (hS : va_S A s.heap H locs) (ls : Array Slot) (hl : lv_has ls 2 [(0, .ref h_t), (1, .ref h_a1)]) : W p l e rmX2_copyDots s m args below meth c H locs 0 0 Q (F0 m 0 ls []) := by
  obtain ⟨hx, hb, hml, hown, hts⟩ := id C
  have hq : ∀ w ∈ wAll, w.before args s = true := fun w h => hts w (List.mem_cons_of_mem _ h)
  unfold fX2_copyDots at h
  refine lv_aload_n hx hb dX2_copyDots_0 rfl (lv_at hl 1 rfl) ?_
  refine z_iconst hx hb dX2_copyDots_1 ?_
  refine lv_aload_n hx hb dX2_copyDots_2 rfl (lv_at hl 0 rfl) ?_
  refine va_get (D := D) (ci := 2) (v := .ref h_t_dots) (C := RX2) (T := TX2) (N := 8) hx hb hq in_wsX20 hown hK hP 0 rfl rfl 0 (by decide) (hq _ q20) (fun _ h9 => h9) rfl dX2_copyDots_3 ?_
  refine z_iconst hx hb dX2_copyDots_6 ?_
  refine lv_aload_n hx hb dX2_copyDots_7 rfl (lv_at hl 0 rfl) ?_
  refine va_get (D := D) (ci := 2) (v := .int (iZ v_t_frames)) (C := RX2) (T := TX2) (N := 8) hx hb hq in_wsX20 hown hK hP 0 rfl rfl 7 (by decide) (hq _ q4) (fun _ h9 => h9) rfl dX2_copyDots_8 ?_
  refine z_bipush hx hb dX2_copyDots_11 (by decide) ?_
  refine z_imul hx hb dX2_copyDots_13 ?_
  obtain ⟨g1, h⟩ := gd_some h
  refine z_copyi (ws' := (wX2_copyDots cA h_t h_t_dots h_a1 h_t_cuts h_t_skips h_t_settings h_t_weights v_t_wide v_t_high v_t_frames (cpZ f_a1 f_t_dots (0 : Int).toNat (0 : Int).toNat (v_t_frames * 64).toNat) f_a1)) hx hb (by rw [hml]; exact hl.1.symm) hown (hq _ q9) (hq _ q10) (hq _ q11) (hq _ q12) hK hP hD hS 2 1 0 0 rfl rfl rfl rfl (Nat.le_of_ble_eq_true rfl) (Nat.le_of_ble_eq_true rfl) g1 rfl (Nat.le_of_ble_eq_true rfl) (Nat.le_of_ble_eq_true rfl) dX2_copyDots_14 (fun H locs hP hD hS => ?_)
  cases h
  exact kr _ _ _ _ dX2_copyDots_17 hP hD hS
set_option maxHeartbeats 4000000 in
set_option maxRecDepth 100000 in
theorem cX2_copyDots_m (l : Launch) (G : ZG) (D : va_G) (cA : Nat → ClassId) (h_t h_t_dots h_a1 h_t_cuts h_t_skips h_t_settings h_t_weights : Nat) (v_t_wide : Int) (v_t_high : Int) (v_t_frames : Int) (f_t_dots : Nat → Int) (f_a1 : Nat → Int) (sz N : Nat) {r : (Nat → Int)} (hF : fX2_copyDots N v_t_frames f_a1 f_t_dots = some r) : zMv l yX2_copyDots vX2_copyDots rmX2_copyDots G D cA [.ref h_t, .ref h_a1] (wX2_copyDots cA h_t h_t_dots h_a1 h_t_cuts h_t_skips h_t_settings h_t_weights v_t_wide v_t_high v_t_frames f_t_dots f_a1) (wX2_copyDots cA h_t h_t_dots h_a1 h_t_cuts h_t_skips h_t_settings h_t_weights v_t_wide v_t_high v_t_frames r f_a1) sz := by
  refine Met.ofW (cc := cX2_copyDots) (maxL := 2) (ret := none) (by decide) rfl ?_
  intro p e s m args below meth c s₁ B hml hv
  obtain ⟨rfl, hsz, hP, hK, hD0, hZ⟩ := hv
  subst hsz
  have hlocks := B.notSynchronized
  have hl := lv_entry ([.ref h_t, .ref h_a1]) (n := 2) (Nat.le_of_ble_eq_true rfl)
  rw [lg_entry_eq]
  generalize (lg_sl ([.ref h_t, .ref h_a1]) ++ List.replicate (2 - (lg_sl ([.ref h_t, .ref h_a1])).length) Slot.unset).toArray = ls at hl ⊢
  exact wX2_copyDots_E p l e s m _ below meth c _ G D cA _ h_t h_t_dots h_a1 h_t_cuts h_t_skips h_t_settings h_t_weights v_t_wide v_t_high v_t_frames f_a1 N ⟨B.exec, B.bytes, hml, findClass_of_methodNamed B.named, atoms_spec (ws := vX2_copyDots) B.pre⟩ hK (fun q h => Or.inr h) hZ r (fun pc H locs ls hd hP hD hS => W.vret B.exec B.bytes B.returns (fun t ht hW => ⟨⟨(), rfl, trivial, by rw [ht]; exact hP, va_K.moved hW.alike hK, hD⟩, hS.F ht⟩) hS.2.2 hd) f_t_dots hF s.heap [] hP (hD0.self (sz := s.heap.size)) va_S.rf ls hl

/-! ===== FlickerDesk$Film.copyFrom(LFlickerDesk$Film;)V ===== -/
abbrev rmX2_copyFrom : Room := { frames := 2, cells := 0, slots := 0, locals := 81 }
abbrev wX2_copyFrom (cA : Nat → ClassId) (h_a1 h_t h_t_dots h_a1_dots h_t_cuts h_a1_cuts h_t_skips h_a1_skips h_t_settings h_a1_settings h_t_weights h_a1_weights : Nat) (v_a1_wide : Int) (v_a1_high : Int) (v_a1_frames : Int) (v_t_wide : Int) (v_t_high : Int) (v_t_frames : Int) (f_t_dots : Nat → Int) (f_a1_dots : Nat → Int) (f_t_cuts : Nat → Int) (f_a1_cuts : Nat → Int) (f_t_skips : Nat → Int) (f_a1_skips : Nat → Int) (f_t_settings : Nat → Int) (f_a1_settings : Nat → Int) (f_t_weights : Nat → Int) (f_a1_weights : Nat → Int) : va_W := [(h_a1, .inr (2, [.ref h_a1_dots, .ref h_a1_cuts, .ref h_a1_skips, .ref h_a1_settings, .ref h_a1_weights, .int (iZ v_a1_wide), .int (iZ v_a1_high), .int (iZ v_a1_frames)])), (h_t, .inr (2, [.ref h_t_dots, .ref h_t_cuts, .ref h_t_skips, .ref h_t_settings, .ref h_t_weights, .int (iZ v_t_wide), .int (iZ v_t_high), .int (iZ v_t_frames)])), (h_t_dots, zA (cA 0) 1536 f_t_dots), (h_a1_dots, zA (cA 0) 1536 f_a1_dots), (h_t_cuts, zA (cA 0) 24 f_t_cuts), (h_a1_cuts, zA (cA 0) 24 f_a1_cuts), (h_t_skips, zA (cA 0) 24 f_t_skips), (h_a1_skips, zA (cA 0) 24 f_a1_skips), (h_t_settings, zA (cA 0) 6 f_t_settings), (h_a1_settings, zA (cA 0) 6 f_a1_settings), (h_t_weights, zA (cA 0) 4 f_t_weights), (h_a1_weights, zA (cA 0) 4 f_a1_weights)]
def fX2_copyFrom (N : Nat) (v_a1_wide : Int) (v_a1_high : Int) (v_a1_frames : Int) (f_a1_dots : Nat → Int) (f_a1_cuts : Nat → Int) (f_a1_skips : Nat → Int) (f_a1_settings : Nat → Int) (f_a1_weights : Nat → Int) (v_t_wide : Int) (v_t_high : Int) (v_t_frames : Int) (f_t_dots : Nat → Int) (f_t_cuts : Nat → Int) (f_t_skips : Nat → Int) (f_t_settings : Nat → Int) (f_t_weights : Nat → Int) : Option (Int × Int × Int × (Nat → Int) × (Nat → Int) × (Nat → Int) × (Nat → Int) × (Nat → Int)) := ((fX2_copyDots N v_a1_frames f_a1_dots f_t_dots).bind fun r1 => (gd ((0 : Int) ≤ (0 : Int) ∧ (0 : Int) ≤ (0 : Int) ∧ (0 : Int) ≤ (24 : Int) ∧ ((0 : Int)) + ((24 : Int)) ≤ 24 ∧ ((0 : Int)) + ((24 : Int)) ≤ 24) (gd ((0 : Int) ≤ (0 : Int) ∧ (0 : Int) ≤ (0 : Int) ∧ (0 : Int) ≤ (24 : Int) ∧ ((0 : Int)) + ((24 : Int)) ≤ 24 ∧ ((0 : Int)) + ((24 : Int)) ≤ 24) (gd ((0 : Int) ≤ (0 : Int) ∧ (0 : Int) ≤ (0 : Int) ∧ (0 : Int) ≤ (6 : Int) ∧ ((0 : Int)) + ((6 : Int)) ≤ 6 ∧ ((0 : Int)) + ((6 : Int)) ≤ 6) (gd ((0 : Int) ≤ (0 : Int) ∧ (0 : Int) ≤ (0 : Int) ∧ (0 : Int) ≤ (4 : Int) ∧ ((0 : Int)) + ((4 : Int)) ≤ 4 ∧ ((0 : Int)) + ((4 : Int)) ≤ 4) (some ((v_a1_wide, v_a1_high, v_a1_frames, r1, cpZ f_a1_cuts f_t_cuts (0 : Int).toNat (0 : Int).toNat (24 : Int).toNat, cpZ f_a1_skips f_t_skips (0 : Int).toNat (0 : Int).toNat (24 : Int).toNat, cpZ f_a1_settings f_t_settings (0 : Int).toNat (0 : Int).toNat (6 : Int).toNat, cpZ f_a1_weights f_t_weights (0 : Int).toNat (0 : Int).toNat (4 : Int).toNat))))))))
abbrev kX2_copyFrom (p : Program) (l : Launch) (e : Env) (s : State) (m : MethodId) (args : Array Value) (below : List Frame) (meth : Method) (c : Code) (Q : State → Prop) (G : ZG) (D : va_G) (cA : Nat → ClassId) (A : Nat → Prop) (h_a1 h_t h_t_dots h_a1_dots h_t_cuts h_a1_cuts h_t_skips h_a1_skips h_t_settings h_a1_settings h_t_weights h_a1_weights : Nat) (v_a1_wide : Int) (v_a1_high : Int) (v_a1_frames : Int) (f_a1_dots : Nat → Int) (f_a1_cuts : Nat → Int) (f_a1_skips : Nat → Int) (f_a1_settings : Nat → Int) (f_a1_weights : Nat → Int) (N : Nat) (r : Int × Int × Int × (Nat → Int) × (Nat → Int) × (Nat → Int) × (Nat → Int) × (Nat → Int)) : Prop := ∀ (pc : Nat) (H : Heap) (locs : List Loc) (ls : Array Slot), decode cX2_copyFrom pc = .ok (.return_, 1) → va_P D vwCl (wX2_copyFrom cA h_a1 h_t h_t_dots h_a1_dots h_t_cuts h_a1_cuts h_t_skips h_a1_skips h_t_settings h_a1_settings h_t_weights h_a1_weights v_a1_wide v_a1_high v_a1_frames r.1 r.2.1 r.2.2.1 r.2.2.2.1 f_a1_dots r.2.2.2.2.1 f_a1_cuts r.2.2.2.2.2.1 f_a1_skips r.2.2.2.2.2.2.1 f_a1_settings r.2.2.2.2.2.2.2 f_a1_weights) H → va_D A (wX2_copyFrom cA h_a1 h_t h_t_dots h_a1_dots h_t_cuts h_a1_cuts h_t_skips h_a1_skips h_t_settings h_a1_settings h_t_weights h_a1_weights v_a1_wide v_a1_high v_a1_frames r.1 r.2.1 r.2.2.1 r.2.2.2.1 f_a1_dots r.2.2.2.2.1 f_a1_cuts r.2.2.2.2.2.1 f_a1_skips r.2.2.2.2.2.2.1 f_a1_settings r.2.2.2.2.2.2.2 f_a1_weights) → va_S A s.heap H locs → W p l e rmX2_copyFrom s m args below meth c H locs 0 0 Q (F0 m pc ls [])
set_option maxHeartbeats 4000000 in
set_option maxRecDepth 100000 in
theorem wX2_copyFrom_E (p : Program) (l : Launch) (e : Env) (s : State) (m : MethodId) (args : Array Value) (below : List Frame) (meth : Method) (c : Code) (Q : State → Prop) (G : ZG) (D : va_G) (cA : Nat → ClassId) (A : Nat → Prop) (h_a1 h_t h_t_dots h_a1_dots h_t_cuts h_a1_cuts h_t_skips h_a1_skips h_t_settings h_a1_settings h_t_weights h_a1_weights : Nat) (v_a1_wide : Int) (v_a1_high : Int) (v_a1_frames : Int) (f_a1_dots : Nat → Int) (f_a1_cuts : Nat → Int) (f_a1_skips : Nat → Int) (f_a1_settings : Nat → Int) (f_a1_weights : Nat → Int) (N : Nat) (C : CallFix p m c cX2_copyFrom 2 s args vX2_copyFrom RX2) (hK : va_K D vwCl (zT cA) s) (hA : ∀ q, s.heap.size ≤ q → A q) (hZ : zSt G A s s.heap) (r : Int × Int × Int × (Nat → Int) × (Nat → Int) × (Nat → Int) × (Nat → Int) × (Nat → Int)) (kr : kX2_copyFrom p l e s m args below meth c Q G D cA A h_a1 h_t h_t_dots h_a1_dots h_t_cuts h_a1_cuts h_t_skips h_a1_skips h_t_settings h_a1_settings h_t_weights h_a1_weights v_a1_wide v_a1_high v_a1_frames f_a1_dots f_a1_cuts f_a1_skips f_a1_settings f_a1_weights N r) (v_t_wide : Int) (v_t_high : Int) (v_t_frames : Int) (f_t_dots : Nat → Int) (f_t_cuts : Nat → Int) (f_t_skips : Nat → Int) (f_t_settings : Nat → Int) (f_t_weights : Nat → Int) (h : fX2_copyFrom N v_a1_wide v_a1_high v_a1_frames f_a1_dots f_a1_cuts f_a1_skips f_a1_settings f_a1_weights v_t_wide v_t_high v_t_frames f_t_dots f_t_cuts f_t_skips f_t_settings f_t_weights = some r) (H : Heap) (locs : List Loc) (hP : va_P D vwCl (wX2_copyFrom cA h_a1 h_t h_t_dots h_a1_dots h_t_cuts h_a1_cuts h_t_skips h_a1_skips h_t_settings h_a1_settings h_t_weights h_a1_weights v_a1_wide v_a1_high v_a1_frames v_t_wide v_t_high v_t_frames f_t_dots f_a1_dots f_t_cuts f_a1_cuts f_t_skips f_a1_skips f_t_settings f_a1_settings f_t_weights f_a1_weights) H) (hD : va_D A (wX2_copyFrom cA h_a1 h_t h_t_dots h_a1_dots h_t_cuts h_a1_cuts h_t_skips h_a1_skips h_t_settings h_a1_settings h_t_weights h_a1_weights v_a1_wide v_a1_high v_a1_frames v_t_wide v_t_high v_t_frames f_t_dots f_a1_dots f_t_cuts f_a1_cuts f_t_skips f_a1_skips f_t_settings f_a1_settings f_t_weights f_a1_weights)) (hS : va_S A s.heap H locs) (ls : Array Slot) (hl : lv_has ls 2 [(0, .ref h_t), (1, .ref h_a1)]) : W p l e rmX2_copyFrom s m args below meth c H locs 0 0 Q (F0 m 0 ls []) := by
  obtain ⟨hx, hb, hml, hown, hts⟩ := id C
  have hq : ∀ w ∈ wAll, w.before args s = true := fun w h => hts w (List.mem_cons_of_mem _ h)
  unfold fX2_copyFrom at h
  refine lv_aload_n hx hb dX2_copyFrom_0 rfl (lv_at hl 0 rfl) ?_
  refine lv_aload_n hx hb dX2_copyFrom_1 rfl (lv_at hl 1 rfl) ?_
  refine va_get (D := D) (ci := 2) (v := .int (iZ v_a1_wide)) (C := RX2) (T := TX2) (N := 8) hx hb hq in_wsX20 hown hK hP 0 rfl rfl 5 (by decide) (hq _ q2) (fun _ h9 => h9) rfl dX2_copyFrom_2 ?_
  refine z_put (ci := 2) (v := .int (iZ v_a1_wide)) (ty := .int) (C := RX2) (T := TX2) (N := 8) (ws' := (wX2_copyFrom cA h_a1 h_t h_t_dots h_a1_dots h_t_cuts h_a1_cuts h_t_skips h_a1_skips h_t_settings h_a1_settings h_t_weights h_a1_weights v_a1_wide v_a1_high v_a1_frames v_a1_wide v_t_high v_t_frames f_t_dots f_a1_dots f_t_cuts f_a1_cuts f_t_skips f_a1_skips f_t_settings f_a1_settings f_t_weights f_a1_weights)) hx hb hq in_wsX20 tyX2 tyX2_ok nmX2 hown hK hP hD hS 1 rfl rfl 5 (by decide) (hq _ q2) (fun _ h9 => h9) rfl (by decide +kernel) rfl rfl (Nat.le_of_ble_eq_true rfl) rfl dX2_copyFrom_5 (fun H locs hP hD hS => ?_)
  refine lv_aload_n hx hb dX2_copyFrom_8 rfl (lv_at hl 0 rfl) ?_
  refine lv_aload_n hx hb dX2_copyFrom_9 rfl (lv_at hl 1 rfl) ?_
  refine va_get (D := D) (ci := 2) (v := .int (iZ v_a1_high)) (C := RX2) (T := TX2) (N := 8) hx hb hq in_wsX20 hown hK hP 0 rfl rfl 6 (by decide) (hq _ q3) (fun _ h9 => h9) rfl dX2_copyFrom_10 ?_
  refine z_put (ci := 2) (v := .int (iZ v_a1_high)) (ty := .int) (C := RX2) (T := TX2) (N := 8) (ws' := (wX2_copyFrom cA h_a1 h_t h_t_dots h_a1_dots h_t_cuts h_a1_cuts h_t_skips h_a1_skips h_t_settings h_a1_settings h_t_weights h_a1_weights v_a1_wide v_a1_high v_a1_frames v_a1_wide v_a1_high v_t_frames f_t_dots f_a1_dots f_t_cuts f_a1_cuts f_t_skips f_a1_skips f_t_settings f_a1_settings f_t_weights f_a1_weights)) hx hb hq in_wsX20 tyX2 tyX2_ok nmX2 hown hK hP hD hS 1 rfl rfl 6 (by decide) (hq _ q3) (fun _ h9 => h9) rfl (by decide +kernel) rfl rfl (Nat.le_of_ble_eq_true rfl) rfl dX2_copyFrom_13 (fun H locs hP hD hS => ?_)
  refine lv_aload_n hx hb dX2_copyFrom_16 rfl (lv_at hl 0 rfl) ?_
  refine lv_aload_n hx hb dX2_copyFrom_17 rfl (lv_at hl 1 rfl) ?_
  refine va_get (D := D) (ci := 2) (v := .int (iZ v_a1_frames)) (C := RX2) (T := TX2) (N := 8) hx hb hq in_wsX20 hown hK hP 0 rfl rfl 7 (by decide) (hq _ q4) (fun _ h9 => h9) rfl dX2_copyFrom_18 ?_
  refine z_put (ci := 2) (v := .int (iZ v_a1_frames)) (ty := .int) (C := RX2) (T := TX2) (N := 8) (ws' := (wX2_copyFrom cA h_a1 h_t h_t_dots h_a1_dots h_t_cuts h_a1_cuts h_t_skips h_a1_skips h_t_settings h_a1_settings h_t_weights h_a1_weights v_a1_wide v_a1_high v_a1_frames v_a1_wide v_a1_high v_a1_frames f_t_dots f_a1_dots f_t_cuts f_a1_cuts f_t_skips f_a1_skips f_t_settings f_a1_settings f_t_weights f_a1_weights)) hx hb hq in_wsX20 tyX2 tyX2_ok nmX2 hown hK hP hD hS 1 rfl rfl 7 (by decide) (hq _ q4) (fun _ h9 => h9) rfl (by decide +kernel) rfl rfl (Nat.le_of_ble_eq_true rfl) rfl dX2_copyFrom_21 (fun H locs hP hD hS => ?_)
  refine lv_aload_n hx hb dX2_copyFrom_24 rfl (lv_at hl 0 rfl) ?_
  refine lv_aload_n hx hb dX2_copyFrom_25 rfl (lv_at hl 1 rfl) ?_
  refine va_get (D := D) (ci := 2) (v := .ref h_a1_dots) (C := RX2) (T := TX2) (N := 8) hx hb hq in_wsX20 hown hK hP 0 rfl rfl 0 (by decide) (hq _ q20) (fun _ h9 => h9) rfl dX2_copyFrom_26 ?_
  obtain ⟨r1, e1, h⟩ := bd_some h
  refine z_callVv (G := G) (D := D) (cA := cA) (wc := (wX2_copyDots cA h_t h_t_dots h_a1_dots h_t_cuts h_t_skips h_t_settings h_t_weights v_a1_wide v_a1_high v_a1_frames f_t_dots f_a1_dots)) (wr := [(h_a1, .inr (2, [.ref h_a1_dots, .ref h_a1_cuts, .ref h_a1_skips, .ref h_a1_settings, .ref h_a1_weights, .int (iZ v_a1_wide), .int (iZ v_a1_high), .int (iZ v_a1_frames)])), (h_t_cuts, zA (cA 0) 24 f_t_cuts), (h_a1_cuts, zA (cA 0) 24 f_a1_cuts), (h_t_skips, zA (cA 0) 24 f_t_skips), (h_a1_skips, zA (cA 0) 24 f_a1_skips), (h_t_settings, zA (cA 0) 6 f_t_settings), (h_a1_settings, zA (cA 0) 6 f_a1_settings), (h_t_weights, zA (cA 0) 4 f_t_weights), (h_a1_weights, zA (cA 0) 4 f_a1_weights)]) (w1 := (wX2_copyDots cA h_t h_t_dots h_a1_dots h_t_cuts h_t_skips h_t_settings h_t_weights v_a1_wide v_a1_high v_a1_frames r1 f_a1_dots)) (ws' := (wX2_copyFrom cA h_a1 h_t h_t_dots h_a1_dots h_t_cuts h_a1_cuts h_t_skips h_a1_skips h_t_settings h_a1_settings h_t_weights h_a1_weights v_a1_wide v_a1_high v_a1_frames v_a1_wide v_a1_high v_a1_frames r1 f_a1_dots f_t_cuts f_a1_cuts f_t_skips f_a1_skips f_t_settings f_a1_settings f_t_weights f_a1_weights)) (As := [.ref h_a1_dots]) C hK hA hZ hP hD hS [1, 2, 3] [0, 4, 5, 6, 7, 8, 9, 10, 11] [0, 9, 10, 11, 1, 2, 3, 4, 5, 6, 7, 8] rfl rfl rfl (by decide) (cX2_copyDots_m l G D cA h_t h_t_dots h_a1_dots h_t_cuts h_t_skips h_t_settings h_t_weights v_a1_wide v_a1_high v_a1_frames f_t_dots f_a1_dots H.size N e1) (cwV 1 hts (gAllV q37 q38 q39 q24 q35) rfl rfl rfl (by decide +kernel) ⟨Nat.le_of_ble_eq_true rfl, Nat.le_of_ble_eq_true rfl⟩) 1 2 rfl rfl rfl rfl hl.1 rfl (Nat.le_of_ble_eq_true rfl) ⟨Nat.zero_le _, Nat.zero_le _⟩ dX2_copyFrom_29 (fun H locs hP hD hS => ?_)
  refine lv_aload_n hx hb dX2_copyFrom_32 rfl (lv_at hl 1 rfl) ?_
  refine va_get (D := D) (ci := 2) (v := .ref h_a1_cuts) (C := RX2) (T := TX2) (N := 8) hx hb hq in_wsX20 hown hK hP 0 rfl rfl 1 (by decide) (hq _ q5) (fun _ h9 => h9) rfl dX2_copyFrom_33 ?_
  refine z_iconst hx hb dX2_copyFrom_36 ?_
  refine lv_aload_n hx hb dX2_copyFrom_37 rfl (lv_at hl 0 rfl) ?_
  refine va_get (D := D) (ci := 2) (v := .ref h_t_cuts) (C := RX2) (T := TX2) (N := 8) hx hb hq in_wsX20 hown hK hP 1 rfl rfl 1 (by decide) (hq _ q5) (fun _ h9 => h9) rfl dX2_copyFrom_38 ?_
  refine z_iconst hx hb dX2_copyFrom_41 ?_
  refine z_bipush hx hb dX2_copyFrom_42 (by decide) ?_
  obtain ⟨g2, h⟩ := gd_some h
  refine z_copyi (ws' := (wX2_copyFrom cA h_a1 h_t h_t_dots h_a1_dots h_t_cuts h_a1_cuts h_t_skips h_a1_skips h_t_settings h_a1_settings h_t_weights h_a1_weights v_a1_wide v_a1_high v_a1_frames v_a1_wide v_a1_high v_a1_frames r1 f_a1_dots (cpZ f_a1_cuts f_t_cuts (0 : Int).toNat (0 : Int).toNat (24 : Int).toNat) f_a1_cuts f_t_skips f_a1_skips f_t_settings f_a1_settings f_t_weights f_a1_weights)) hx hb (by rw [hml]; exact hl.1.symm) hown (hq _ q9) (hq _ q10) (hq _ q11) (hq _ q12) hK hP hD hS 5 4 0 0 rfl rfl rfl rfl (Nat.le_of_ble_eq_true rfl) (Nat.le_of_ble_eq_true rfl) g2 rfl (Nat.le_of_ble_eq_true rfl) (Nat.le_of_ble_eq_true rfl) dX2_copyFrom_44 (fun H locs hP hD hS => ?_)
  refine lv_aload_n hx hb dX2_copyFrom_47 rfl (lv_at hl 1 rfl) ?_
  refine va_get (D := D) (ci := 2) (v := .ref h_a1_skips) (C := RX2) (T := TX2) (N := 8) hx hb hq in_wsX20 hown hK hP 0 rfl rfl 2 (by decide) (hq _ q6) (fun _ h9 => h9) rfl dX2_copyFrom_48 ?_
  refine z_iconst hx hb dX2_copyFrom_51 ?_
  refine lv_aload_n hx hb dX2_copyFrom_52 rfl (lv_at hl 0 rfl) ?_
  refine va_get (D := D) (ci := 2) (v := .ref h_t_skips) (C := RX2) (T := TX2) (N := 8) hx hb hq in_wsX20 hown hK hP 1 rfl rfl 2 (by decide) (hq _ q6) (fun _ h9 => h9) rfl dX2_copyFrom_53 ?_
  refine z_iconst hx hb dX2_copyFrom_56 ?_
  refine z_bipush hx hb dX2_copyFrom_57 (by decide) ?_
  obtain ⟨g3, h⟩ := gd_some h
  refine z_copyi (ws' := (wX2_copyFrom cA h_a1 h_t h_t_dots h_a1_dots h_t_cuts h_a1_cuts h_t_skips h_a1_skips h_t_settings h_a1_settings h_t_weights h_a1_weights v_a1_wide v_a1_high v_a1_frames v_a1_wide v_a1_high v_a1_frames r1 f_a1_dots (cpZ f_a1_cuts f_t_cuts (0 : Int).toNat (0 : Int).toNat (24 : Int).toNat) f_a1_cuts (cpZ f_a1_skips f_t_skips (0 : Int).toNat (0 : Int).toNat (24 : Int).toNat) f_a1_skips f_t_settings f_a1_settings f_t_weights f_a1_weights)) hx hb (by rw [hml]; exact hl.1.symm) hown (hq _ q9) (hq _ q10) (hq _ q11) (hq _ q12) hK hP hD hS 7 6 0 0 rfl rfl rfl rfl (Nat.le_of_ble_eq_true rfl) (Nat.le_of_ble_eq_true rfl) g3 rfl (Nat.le_of_ble_eq_true rfl) (Nat.le_of_ble_eq_true rfl) dX2_copyFrom_59 (fun H locs hP hD hS => ?_)
  refine lv_aload_n hx hb dX2_copyFrom_62 rfl (lv_at hl 1 rfl) ?_
  refine va_get (D := D) (ci := 2) (v := .ref h_a1_settings) (C := RX2) (T := TX2) (N := 8) hx hb hq in_wsX20 hown hK hP 0 rfl rfl 3 (by decide) (hq _ q8) (fun _ h9 => h9) rfl dX2_copyFrom_63 ?_
  refine z_iconst hx hb dX2_copyFrom_66 ?_
  refine lv_aload_n hx hb dX2_copyFrom_67 rfl (lv_at hl 0 rfl) ?_
  refine va_get (D := D) (ci := 2) (v := .ref h_t_settings) (C := RX2) (T := TX2) (N := 8) hx hb hq in_wsX20 hown hK hP 1 rfl rfl 3 (by decide) (hq _ q8) (fun _ h9 => h9) rfl dX2_copyFrom_68 ?_
  refine z_iconst hx hb dX2_copyFrom_71 ?_
  refine z_bipush hx hb dX2_copyFrom_72 (by decide) ?_
  obtain ⟨g4, h⟩ := gd_some h
  refine z_copyi (ws' := (wX2_copyFrom cA h_a1 h_t h_t_dots h_a1_dots h_t_cuts h_a1_cuts h_t_skips h_a1_skips h_t_settings h_a1_settings h_t_weights h_a1_weights v_a1_wide v_a1_high v_a1_frames v_a1_wide v_a1_high v_a1_frames r1 f_a1_dots (cpZ f_a1_cuts f_t_cuts (0 : Int).toNat (0 : Int).toNat (24 : Int).toNat) f_a1_cuts (cpZ f_a1_skips f_t_skips (0 : Int).toNat (0 : Int).toNat (24 : Int).toNat) f_a1_skips (cpZ f_a1_settings f_t_settings (0 : Int).toNat (0 : Int).toNat (6 : Int).toNat) f_a1_settings f_t_weights f_a1_weights)) hx hb (by rw [hml]; exact hl.1.symm) hown (hq _ q9) (hq _ q10) (hq _ q11) (hq _ q12) hK hP hD hS 9 8 0 0 rfl rfl rfl rfl (Nat.le_of_ble_eq_true rfl) (Nat.le_of_ble_eq_true rfl) g4 rfl (Nat.le_of_ble_eq_true rfl) (Nat.le_of_ble_eq_true rfl) dX2_copyFrom_74 (fun H locs hP hD hS => ?_)
  refine lv_aload_n hx hb dX2_copyFrom_77 rfl (lv_at hl 1 rfl) ?_
  refine va_get (D := D) (ci := 2) (v := .ref h_a1_weights) (C := RX2) (T := TX2) (N := 8) hx hb hq in_wsX20 hown hK hP 0 rfl rfl 4 (by decide) (hq _ q7) (fun _ h9 => h9) rfl dX2_copyFrom_78 ?_
  refine z_iconst hx hb dX2_copyFrom_81 ?_
  refine lv_aload_n hx hb dX2_copyFrom_82 rfl (lv_at hl 0 rfl) ?_
  refine va_get (D := D) (ci := 2) (v := .ref h_t_weights) (C := RX2) (T := TX2) (N := 8) hx hb hq in_wsX20 hown hK hP 1 rfl rfl 4 (by decide) (hq _ q7) (fun _ h9 => h9) rfl dX2_copyFrom_83 ?_
  refine z_iconst hx hb dX2_copyFrom_86 ?_
  refine z_iconst hx hb dX2_copyFrom_87 ?_
  obtain ⟨g5, h⟩ := gd_some h
  refine z_copyi (ws' := (wX2_copyFrom cA h_a1 h_t h_t_dots h_a1_dots h_t_cuts h_a1_cuts h_t_skips h_a1_skips h_t_settings h_a1_settings h_t_weights h_a1_weights v_a1_wide v_a1_high v_a1_frames v_a1_wide v_a1_high v_a1_frames r1 f_a1_dots (cpZ f_a1_cuts f_t_cuts (0 : Int).toNat (0 : Int).toNat (24 : Int).toNat) f_a1_cuts (cpZ f_a1_skips f_t_skips (0 : Int).toNat (0 : Int).toNat (24 : Int).toNat) f_a1_skips (cpZ f_a1_settings f_t_settings (0 : Int).toNat (0 : Int).toNat (6 : Int).toNat) f_a1_settings (cpZ f_a1_weights f_t_weights (0 : Int).toNat (0 : Int).toNat (4 : Int).toNat) f_a1_weights)) hx hb (by rw [hml]; exact hl.1.symm) hown (hq _ q9) (hq _ q10) (hq _ q11) (hq _ q12) hK hP hD hS 11 10 0 0 rfl rfl rfl rfl (Nat.le_of_ble_eq_true rfl) (Nat.le_of_ble_eq_true rfl) g5 rfl (Nat.le_of_ble_eq_true rfl) (Nat.le_of_ble_eq_true rfl) dX2_copyFrom_88 (fun H locs hP hD hS => ?_)
  cases h
  exact kr _ _ _ _ dX2_copyFrom_91 hP hD hS
set_option maxHeartbeats 4000000 in
set_option maxRecDepth 100000 in
theorem cX2_copyFrom_m (l : Launch) (G : ZG) (D : va_G) (cA : Nat → ClassId) (h_a1 h_t h_t_dots h_a1_dots h_t_cuts h_a1_cuts h_t_skips h_a1_skips h_t_settings h_a1_settings h_t_weights h_a1_weights : Nat) (v_a1_wide : Int) (v_a1_high : Int) (v_a1_frames : Int) (v_t_wide : Int) (v_t_high : Int) (v_t_frames : Int) (f_t_dots : Nat → Int) (f_a1_dots : Nat → Int) (f_t_cuts : Nat → Int) (f_a1_cuts : Nat → Int) (f_t_skips : Nat → Int) (f_a1_skips : Nat → Int) (f_t_settings : Nat → Int) (f_a1_settings : Nat → Int) (f_t_weights : Nat → Int) (f_a1_weights : Nat → Int) (sz N : Nat) {r : Int × Int × Int × (Nat → Int) × (Nat → Int) × (Nat → Int) × (Nat → Int) × (Nat → Int)} (hF : fX2_copyFrom N v_a1_wide v_a1_high v_a1_frames f_a1_dots f_a1_cuts f_a1_skips f_a1_settings f_a1_weights v_t_wide v_t_high v_t_frames f_t_dots f_t_cuts f_t_skips f_t_settings f_t_weights = some r) : zMv l yX2_copyFrom vX2_copyFrom rmX2_copyFrom G D cA [.ref h_t, .ref h_a1] (wX2_copyFrom cA h_a1 h_t h_t_dots h_a1_dots h_t_cuts h_a1_cuts h_t_skips h_a1_skips h_t_settings h_a1_settings h_t_weights h_a1_weights v_a1_wide v_a1_high v_a1_frames v_t_wide v_t_high v_t_frames f_t_dots f_a1_dots f_t_cuts f_a1_cuts f_t_skips f_a1_skips f_t_settings f_a1_settings f_t_weights f_a1_weights) (wX2_copyFrom cA h_a1 h_t h_t_dots h_a1_dots h_t_cuts h_a1_cuts h_t_skips h_a1_skips h_t_settings h_a1_settings h_t_weights h_a1_weights v_a1_wide v_a1_high v_a1_frames r.1 r.2.1 r.2.2.1 r.2.2.2.1 f_a1_dots r.2.2.2.2.1 f_a1_cuts r.2.2.2.2.2.1 f_a1_skips r.2.2.2.2.2.2.1 f_a1_settings r.2.2.2.2.2.2.2 f_a1_weights) sz := by
  refine Met.ofW (cc := cX2_copyFrom) (maxL := 2) (ret := none) (by decide) rfl ?_
  intro p e s m args below meth c s₁ B hml hv
  obtain ⟨rfl, hsz, hP, hK, hD0, hZ⟩ := hv
  subst hsz
  have hlocks := B.notSynchronized
  have hl := lv_entry ([.ref h_t, .ref h_a1]) (n := 2) (Nat.le_of_ble_eq_true rfl)
  rw [lg_entry_eq]
  generalize (lg_sl ([.ref h_t, .ref h_a1]) ++ List.replicate (2 - (lg_sl ([.ref h_t, .ref h_a1])).length) Slot.unset).toArray = ls at hl ⊢
  exact wX2_copyFrom_E p l e s m _ below meth c _ G D cA _ h_a1 h_t h_t_dots h_a1_dots h_t_cuts h_a1_cuts h_t_skips h_a1_skips h_t_settings h_a1_settings h_t_weights h_a1_weights v_a1_wide v_a1_high v_a1_frames f_a1_dots f_a1_cuts f_a1_skips f_a1_settings f_a1_weights N ⟨B.exec, B.bytes, hml, findClass_of_methodNamed B.named, atoms_spec (ws := vX2_copyFrom) B.pre⟩ hK (fun q h => Or.inr h) hZ r (fun pc H locs ls hd hP hD hS => W.vret B.exec B.bytes B.returns (fun t ht hW => ⟨⟨(), rfl, trivial, by rw [ht]; exact hP, va_K.moved hW.alike hK, hD⟩, hS.F ht⟩) hS.2.2 hd) v_t_wide v_t_high v_t_frames f_t_dots f_t_cuts f_t_skips f_t_settings f_t_weights hF s.heap [] hP (hD0.self (sz := s.heap.size)) va_S.rf ls hl

/-! ===== FlickerDesk$Film.size()I ===== -/
abbrev rmX2_size : Room := { frames := 0, cells := 0, slots := 0, locals := 0 }
abbrev wX2_size (cA : Nat → ClassId) (h_t h_t_dots h_t_cuts h_t_skips h_t_settings h_t_weights : Nat) (v_t_wide : Int) (v_t_high : Int) (v_t_frames : Int) : va_W := [(h_t, .inr (2, [.ref h_t_dots, .ref h_t_cuts, .ref h_t_skips, .ref h_t_settings, .ref h_t_weights, .int (iZ v_t_wide), .int (iZ v_t_high), .int (iZ v_t_frames)]))]
def fX2_size (N : Nat) (v_t_wide : Int) (v_t_high : Int) : Option (Int) := (some (v_t_wide * v_t_high))
abbrev kX2_size (p : Program) (l : Launch) (e : Env) (s : State) (m : MethodId) (args : Array Value) (below : List Frame) (meth : Method) (c : Code) (Q : State → Prop) (G : ZG) (D : va_G) (cA : Nat → ClassId) (A : Nat → Prop) (h_t h_t_dots h_t_cuts h_t_skips h_t_settings h_t_weights : Nat) (v_t_wide : Int) (v_t_high : Int) (v_t_frames : Int) (N : Nat) (r : Int) : Prop := ∀ (pc : Nat) (H : Heap) (locs : List Loc) (ls : Array Slot), decode cX2_size pc = .ok (.ireturn, 1) → va_P D vwCl (wX2_size cA h_t h_t_dots h_t_cuts h_t_skips h_t_settings h_t_weights v_t_wide v_t_high v_t_frames) H → va_D A (wX2_size cA h_t h_t_dots h_t_cuts h_t_skips h_t_settings h_t_weights v_t_wide v_t_high v_t_frames) → va_S A s.heap H locs → W p l e rmX2_size s m args below meth c H locs 0 0 Q (F0 m pc ls [.int (iZ r)])
set_option maxHeartbeats 4000000 in
set_option maxRecDepth 100000 in
theorem wX2_size_E (p : Program) (l : Launch) (e : Env) (s : State) (m : MethodId) (args : Array Value) (below : List Frame) (meth : Method) (c : Code) (Q : State → Prop) (G : ZG) (D : va_G) (cA : Nat → ClassId) (A : Nat → Prop) (h_t h_t_dots h_t_cuts h_t_skips h_t_settings h_t_weights : Nat) (v_t_wide : Int) (v_t_high : Int) (v_t_frames : Int) (N : Nat) (C : CallFix p m c cX2_size 1 s args vX2_size RX2) (hK : va_K D vwCl (zT cA) s) (hA : ∀ q, s.heap.size ≤ q → A q) (hZ : zSt G A s s.heap) (r : Int) (kr : kX2_size p l e s m args below meth c Q G D cA A h_t h_t_dots h_t_cuts h_t_skips h_t_settings h_t_weights v_t_wide v_t_high v_t_frames N r) (h : fX2_size N v_t_wide v_t_high = some r) (H : Heap) (locs : List Loc) (hP : va_P D vwCl (wX2_size cA h_t h_t_dots h_t_cuts h_t_skips h_t_settings h_t_weights v_t_wide v_t_high v_t_frames) H) (hD : va_D A (wX2_size cA h_t h_t_dots h_t_cuts h_t_skips h_t_settings h_t_weights v_t_wide v_t_high v_t_frames)) (hS : va_S A s.heap H locs) (ls : Array Slot) (hl : lv_has ls 1 [(0, .ref h_t)]) : W p l e rmX2_size s m args below meth c H locs 0 0 Q (F0 m 0 ls []) := by
  obtain ⟨hx, hb, hml, hown, hts⟩ := id C
  have hq : ∀ w ∈ wAll, w.before args s = true := fun w h => hts w (List.mem_cons_of_mem _ h)
  unfold fX2_size at h
  refine lv_aload_n hx hb dX2_size_0 rfl (lv_at hl 0 rfl) ?_
  refine va_get (D := D) (ci := 2) (v := .int (iZ v_t_wide)) (C := RX2) (T := TX2) (N := 8) hx hb hq in_wsX20 hown hK hP 0 rfl rfl 5 (by decide) (hq _ q2) (fun _ h9 => h9) rfl dX2_size_1 ?_
  refine lv_aload_n hx hb dX2_size_4 rfl (lv_at hl 0 rfl) ?_
  refine va_get (D := D) (ci := 2) (v := .int (iZ v_t_high)) (C := RX2) (T := TX2) (N := 8) hx hb hq in_wsX20 hown hK hP 0 rfl rfl 6 (by decide) (hq _ q3) (fun _ h9 => h9) rfl dX2_size_5 ?_
  refine z_imul hx hb dX2_size_8 ?_
  cases h
  exact kr _ _ _ _ dX2_size_9 hP hD hS
set_option maxHeartbeats 4000000 in
set_option maxRecDepth 100000 in
theorem cX2_size_m (l : Launch) (G : ZG) (D : va_G) (cA : Nat → ClassId) (h_t h_t_dots h_t_cuts h_t_skips h_t_settings h_t_weights : Nat) (v_t_wide : Int) (v_t_high : Int) (v_t_frames : Int) (sz N : Nat) {r : Int} (hF : fX2_size N v_t_wide v_t_high = some r) : zMi l yX2_size vX2_size rmX2_size G D cA [.ref h_t] (wX2_size cA h_t h_t_dots h_t_cuts h_t_skips h_t_settings h_t_weights v_t_wide v_t_high v_t_frames) (wX2_size cA h_t h_t_dots h_t_cuts h_t_skips h_t_settings h_t_weights v_t_wide v_t_high v_t_frames) r sz := by
  refine Met.ofW (cc := cX2_size) (maxL := 1) (ret := (some .int)) (by decide) rfl ?_
  intro p e s m args below meth c s₁ B hml hv
  obtain ⟨rfl, hsz, hP, hK, hD0, hZ⟩ := hv
  subst hsz
  have hlocks := B.notSynchronized
  have hl := lv_entry ([.ref h_t]) (n := 1) (Nat.le_of_ble_eq_true rfl)
  rw [lg_entry_eq]
  generalize (lg_sl ([.ref h_t]) ++ List.replicate (1 - (lg_sl ([.ref h_t])).length) Slot.unset).toArray = ls at hl ⊢
  exact wX2_size_E p l e s m _ below meth c _ G D cA _ h_t h_t_dots h_t_cuts h_t_skips h_t_settings h_t_weights v_t_wide v_t_high v_t_frames N ⟨B.exec, B.bytes, hml, findClass_of_methodNamed B.named, atoms_spec (ws := vX2_size) B.pre⟩ hK (fun q h => Or.inr h) hZ r (fun pc H locs ls hd hP hD hS => W.iret B.exec B.bytes B.returns (fun t ht hW => ⟨⟨_, (), rfl, rfl, by rw [ht]; exact hP, va_K.moved hW.alike hK, hD⟩, hS.F ht⟩) hS.2.2 hd) hF s.heap [] hP (hD0.self (sz := s.heap.size)) va_S.rf ls hl

/-! ===== FlickerDesk$Tally.read([III)V ===== -/
abbrev rmX9_read : Room := { frames := 1, cells := 0, slots := 0, locals := 23 }
abbrev wX9_read (cA : Nat → ClassId) (h_t h_t_cums h_a1 : Nat) (f_t_cums : Nat → Int) (f_a1 : Nat → Int) : va_W := [(h_t, .inr (9, [.ref h_t_cums])), (h_t_cums, zA (cA 0) 384 f_t_cums), (h_a1, zA (cA 0) 1536 f_a1)]
def fX9_read_b27 (N : Nat) (f_a1 : Nat → Int) (x2 : Int) (x3 : Int) (rec : Int → Int → Int → (Nat → Int) → Option ((Nat → Int))) (k : Int → Int → (Nat → Int) → Option ((Nat → Int))) (i4 : Int) (i5 : Int) (i6 : Int) (f_t_cums : Nat → Int) : Option ((Nat → Int)) := (if iZ i6 < iZ x3 then (gd ((0 : Int) ≤ (i4 * 64) + i6 ∧ (i4 * 64) + i6 < 1536) (gd ((0 : Int) ≤ i5 + (f_a1 ((i4 * 64) + i6).toNat) ∧ i5 + (f_a1 ((i4 * 64) + i6).toNat) < 384) (gd ((0 : Int) ≤ i5 + (f_a1 ((i4 * 64) + i6).toNat) ∧ i5 + (f_a1 ((i4 * 64) + i6).toNat) < 384) (rec i4 i5 (i6 + 1) (uZ f_t_cums (i5 + (f_a1 ((i4 * 64) + i6).toNat)).toNat ((f_t_cums (i5 + (f_a1 ((i4 * 64) + i6).toNat)).toNat) + 1)))))) else (k i4 i5 f_t_cums))
def fX9_read_L27 (N : Nat) (f_a1 : Nat → Int) (x2 : Int) (x3 : Int) (k : Int → Int → (Nat → Int) → Option ((Nat → Int))) : Nat → Int → Int → Int → (Nat → Int) → Option ((Nat → Int))
  | 0 => fun _ _ _ _ => none
  | n + 1 => fX9_read_b27 N f_a1 x2 x3 (fX9_read_L27 N f_a1 x2 x3 k n) k
def fX9_read_b64 (N : Nat) (f_a1 : Nat → Int) (x2 : Int) (x3 : Int) (rec : Int → Int → Int → (Nat → Int) → Option ((Nat → Int))) (k : Int → (Nat → Int) → Option ((Nat → Int))) (i4 : Int) (i5 : Int) (i6 : Int) (f_t_cums : Nat → Int) : Option ((Nat → Int)) := (if iZ i6 < iZ 16 then (gd ((0 : Int) ≤ i5 + i6 ∧ i5 + i6 < 384) (gd ((0 : Int) ≤ (i5 + i6) - 1 ∧ (i5 + i6) - 1 < 384) (gd ((0 : Int) ≤ i5 + i6 ∧ i5 + i6 < 384) (rec i4 i5 (i6 + 1) (uZ f_t_cums (i5 + i6).toNat ((f_t_cums (i5 + i6).toNat) + (f_t_cums ((i5 + i6) - 1).toNat))))))) else (k i4 f_t_cums))
def fX9_read_L64 (N : Nat) (f_a1 : Nat → Int) (x2 : Int) (x3 : Int) (k : Int → (Nat → Int) → Option ((Nat → Int))) : Nat → Int → Int → Int → (Nat → Int) → Option ((Nat → Int))
  | 0 => fun _ _ _ _ => none
  | n + 1 => fX9_read_b64 N f_a1 x2 x3 (fX9_read_L64 N f_a1 x2 x3 k n) k
def fX9_read_j102 (N : Nat) (f_a1 : Nat → Int) (x2 : Int) (x3 : Int) (rec : Int → (Nat → Int) → Option ((Nat → Int))) (k : (Nat → Int) → Option ((Nat → Int))) (i4 : Int) (f_t_cums : Nat → Int) : Option ((Nat → Int)) := (rec (i4 + 1) f_t_cums)
def fX9_read_j61 (N : Nat) (f_a1 : Nat → Int) (x2 : Int) (x3 : Int) (rec : Int → (Nat → Int) → Option ((Nat → Int))) (k : (Nat → Int) → Option ((Nat → Int))) (i4 : Int) (i5 : Int) (f_t_cums : Nat → Int) : Option ((Nat → Int)) := (fX9_read_L64 N f_a1 x2 x3 (fX9_read_j102 N f_a1 x2 x3 rec k) N i4 i5 1 f_t_cums)
def fX9_read_b11 (N : Nat) (f_a1 : Nat → Int) (x2 : Int) (x3 : Int) (rec : Int → (Nat → Int) → Option ((Nat → Int))) (k : (Nat → Int) → Option ((Nat → Int))) (i4 : Int) (f_t_cums : Nat → Int) : Option ((Nat → Int)) := (if iZ i4 < iZ x2 then (fX9_read_L27 N f_a1 x2 x3 (fX9_read_j61 N f_a1 x2 x3 rec k) N i4 (i4 * 16) 0 f_t_cums) else (k f_t_cums))
def fX9_read_L11 (N : Nat) (f_a1 : Nat → Int) (x2 : Int) (x3 : Int) (k : (Nat → Int) → Option ((Nat → Int))) : Nat → Int → (Nat → Int) → Option ((Nat → Int))
  | 0 => fun _ _ => none
  | n + 1 => fX9_read_b11 N f_a1 x2 x3 (fX9_read_L11 N f_a1 x2 x3 k n) k
def fX9_read_j108 (N : Nat) (f_a1 : Nat → Int) (x2 : Int) (x3 : Int) (f_t_cums : Nat → Int) : Option ((Nat → Int)) := (some f_t_cums)
def fX9_read (N : Nat) (f_a1 : Nat → Int) (f_t_cums : Nat → Int) (x2 : Int) (x3 : Int) : Option ((Nat → Int)) := ((fJ7_fill_53178 N 384 f_t_cums 0).bind fun r1 => (fX9_read_L11 N f_a1 x2 x3 (fX9_read_j108 N f_a1 x2 x3) N 0 r1))
abbrev kX9_read (p : Program) (l : Launch) (e : Env) (s : State) (m : MethodId) (args : Array Value) (below : List Frame) (meth : Method) (c : Code) (Q : State → Prop) (G : ZG) (D : va_G) (cA : Nat → ClassId) (A : Nat → Prop) (h_t h_t_cums h_a1 : Nat) (f_a1 : Nat → Int) (x2 : Int) (x3 : Int) (N : Nat) (r : (Nat → Int)) : Prop := ∀ (pc : Nat) (H : Heap) (locs : List Loc) (ls : Array Slot), decode cX9_read pc = .ok (.return_, 1) → va_P D vwCl (wX9_read cA h_t h_t_cums h_a1 r f_a1) H → va_D A (wX9_read cA h_t h_t_cums h_a1 r f_a1) → va_S A s.heap H locs → W p l e rmX9_read s m args below meth c H locs 0 0 Q (F0 m pc ls [])
abbrev sX9_read_61 (p : Program) (l : Launch) (e : Env) (s : State) (m : MethodId) (args : Array Value) (below : List Frame) (meth : Method) (c : Code) (Q : State → Prop) (G : ZG) (D : va_G) (cA : Nat → ClassId) (A : Nat → Prop) (h_t h_t_cums h_a1 : Nat) (f_a1 : Nat → Int) (x2 : Int) (x3 : Int) (N : Nat) (i4 : Int) (i5 : Int) (f_t_cums : Nat → Int) : Prop := ∀ (H : Heap) (locs : List Loc), va_P D vwCl (wX9_read cA h_t h_t_cums h_a1 f_t_cums f_a1) H → va_D A (wX9_read cA h_t h_t_cums h_a1 f_t_cums f_a1) → va_S A s.heap H locs → ∀ ls : Array Slot, lv_has ls 7 [(0, .ref h_t), (1, .ref h_a1), (2, .int (iZ x2)), (3, .int (iZ x3)), (4, .int (iZ i4)), (5, .int (iZ i5))] → W p l e rmX9_read s m args below meth c H locs 0 0 Q (F0 m 61 ls [])
abbrev sX9_read_27 (p : Program) (l : Launch) (e : Env) (s : State) (m : MethodId) (args : Array Value) (below : List Frame) (meth : Method) (c : Code) (Q : State → Prop) (G : ZG) (D : va_G) (cA : Nat → ClassId) (A : Nat → Prop) (h_t h_t_cums h_a1 : Nat) (f_a1 : Nat → Int) (x2 : Int) (x3 : Int) (N : Nat) (i4 : Int) (i5 : Int) (i6 : Int) (f_t_cums : Nat → Int) : Prop := ∀ (H : Heap) (locs : List Loc), va_P D vwCl (wX9_read cA h_t h_t_cums h_a1 f_t_cums f_a1) H → va_D A (wX9_read cA h_t h_t_cums h_a1 f_t_cums f_a1) → va_S A s.heap H locs → ∀ ls : Array Slot, lv_has ls 7 [(0, .ref h_t), (1, .ref h_a1), (2, .int (iZ x2)), (3, .int (iZ x3)), (4, .int (iZ i4)), (5, .int (iZ i5)), (6, .int (iZ i6))] → W p l e rmX9_read s m args below meth c H locs 0 0 Q (F0 m 27 ls [])
abbrev sX9_read_102 (p : Program) (l : Launch) (e : Env) (s : State) (m : MethodId) (args : Array Value) (below : List Frame) (meth : Method) (c : Code) (Q : State → Prop) (G : ZG) (D : va_G) (cA : Nat → ClassId) (A : Nat → Prop) (h_t h_t_cums h_a1 : Nat) (f_a1 : Nat → Int) (x2 : Int) (x3 : Int) (N : Nat) (i4 : Int) (f_t_cums : Nat → Int) : Prop := ∀ (H : Heap) (locs : List Loc), va_P D vwCl (wX9_read cA h_t h_t_cums h_a1 f_t_cums f_a1) H → va_D A (wX9_read cA h_t h_t_cums h_a1 f_t_cums f_a1) → va_S A s.heap H locs → ∀ ls : Array Slot, lv_has ls 7 [(0, .ref h_t), (1, .ref h_a1), (2, .int (iZ x2)), (3, .int (iZ x3)), (4, .int (iZ i4))] → W p l e rmX9_read s m args below meth c H locs 0 0 Q (F0 m 102 ls [])
abbrev sX9_read_64 (p : Program) (l : Launch) (e : Env) (s : State) (m : MethodId) (args : Array Value) (below : List Frame) (meth : Method) (c : Code) (Q : State → Prop) (G : ZG) (D : va_G) (cA : Nat → ClassId) (A : Nat → Prop) (h_t h_t_cums h_a1 : Nat) (f_a1 : Nat → Int) (x2 : Int) (x3 : Int) (N : Nat) (i4 : Int) (i5 : Int) (i6 : Int) (f_t_cums : Nat → Int) : Prop := ∀ (H : Heap) (locs : List Loc), va_P D vwCl (wX9_read cA h_t h_t_cums h_a1 f_t_cums f_a1) H → va_D A (wX9_read cA h_t h_t_cums h_a1 f_t_cums f_a1) → va_S A s.heap H locs → ∀ ls : Array Slot, lv_has ls 7 [(0, .ref h_t), (1, .ref h_a1), (2, .int (iZ x2)), (3, .int (iZ x3)), (4, .int (iZ i4)), (5, .int (iZ i5)), (6, .int (iZ i6))] → W p l e rmX9_read s m args below meth c H locs 0 0 Q (F0 m 64 ls [])
abbrev sX9_read_108 (p : Program) (l : Launch) (e : Env) (s : State) (m : MethodId) (args : Array Value) (below : List Frame) (meth : Method) (c : Code) (Q : State → Prop) (G : ZG) (D : va_G) (cA : Nat → ClassId) (A : Nat → Prop) (h_t h_t_cums h_a1 : Nat) (f_a1 : Nat → Int) (x2 : Int) (x3 : Int) (N : Nat) (f_t_cums : Nat → Int) : Prop := ∀ (H : Heap) (locs : List Loc), va_P D vwCl (wX9_read cA h_t h_t_cums h_a1 f_t_cums f_a1) H → va_D A (wX9_read cA h_t h_t_cums h_a1 f_t_cums f_a1) → va_S A s.heap H locs → ∀ ls : Array Slot, lv_has ls 7 [] → W p l e rmX9_read s m args below meth c H locs 0 0 Q (F0 m 108 ls [])
abbrev sX9_read_11 (p : Program) (l : Launch) (e : Env) (s : State) (m : MethodId) (args : Array Value) (below : List Frame) (meth : Method) (c : Code) (Q : State → Prop) (G : ZG) (D : va_G) (cA : Nat → ClassId) (A : Nat → Prop) (h_t h_t_cums h_a1 : Nat) (f_a1 : Nat → Int) (x2 : Int) (x3 : Int) (N : Nat) (i4 : Int) (f_t_cums : Nat → Int) : Prop := ∀ (H : Heap) (locs : List Loc), va_P D vwCl (wX9_read cA h_t h_t_cums h_a1 f_t_cums f_a1) H → va_D A (wX9_read cA h_t h_t_cums h_a1 f_t_cums f_a1) → va_S A s.heap H locs → ∀ ls : Array Slot, lv_has ls 7 [(0, .ref h_t), (1, .ref h_a1), (2, .int (iZ x2)), (3, .int (iZ x3)), (4, .int (iZ i4))] → W p l e rmX9_read s m args below meth c H locs 0 0 Q (F0 m 11 ls [])
set_option maxHeartbeats 4000000 in
set_option maxRecDepth 100000 in
theorem wX9_read_b27 (p : Program) (l : Launch) (e : Env) (s : State) (m : MethodId) (args : Array Value) (below : List Frame) (meth : Method) (c : Code) (Q : State → Prop) (G : ZG) (D : va_G) (cA : Nat → ClassId) (A : Nat → Prop) (h_t h_t_cums h_a1 : Nat) (f_a1 : Nat → Int) (x2 : Int) (x3 : Int) (N : Nat) (C : CallFix p m c cX9_read 7 s args vX9_read RX9) (hK : va_K D vwCl (zT cA) s) (hA : ∀ q, s.heap.size ≤ q → A q) (hZ : zSt G A s s.heap) (r : (Nat → Int)) (kr : kX9_read p l e s m args below meth c Q G D cA A h_t h_t_cums h_a1 f_a1 x2 x3 N r) (rec : Int → Int → Int → (Nat → Int) → Option ((Nat → Int))) (k : Int → Int → (Nat → Int) → Option ((Nat → Int))) (hrec : ∀ (i4 : Int) (i5 : Int) (i6 : Int) (f_t_cums : Nat → Int), rec i4 i5 i6 f_t_cums = some r → sX9_read_27 p l e s m args below meth c Q G D cA A h_t h_t_cums h_a1 f_a1 x2 x3 N i4 i5 i6 f_t_cums) (hk : ∀ (i4 : Int) (i5 : Int) (f_t_cums : Nat → Int), k i4 i5 f_t_cums = some r → sX9_read_61 p l e s m args below meth c Q G D cA A h_t h_t_cums h_a1 f_a1 x2 x3 N i4 i5 f_t_cums) (i4 : Int) (i5 : Int) (i6 : Int) (f_t_cums : Nat → Int) (h : fX9_read_b27 N f_a1 x2 x3 rec k i4 i5 i6 f_t_cums = some r) : sX9_read_27 p l e s m args below meth c Q G D cA A h_t h_t_cums h_a1 f_a1 x2 x3 N i4 i5 i6 f_t_cums := by
  obtain ⟨hx, hb, hml, hown, hts⟩ := id C
  have hq : ∀ w ∈ wAll, w.before args s = true := fun w h => hts w (List.mem_cons_of_mem _ h)
  intro H locs hP hD hS ls hl
  unfold fX9_read_b27 at h
  refine lv_iload hx hb dX9_read_27 (lv_at hl 6 rfl) ?_
  refine lv_iload_n hx hb dX9_read_29 rfl (lv_at hl 3 rfl) ?_
  refine z_icmp_ge (tgt := 61) hx hb dX9_read_30 (by decide) (fun c3 => ?_) (fun c3 => ?_)
  · rw [if_neg c3] at h
    exact hk i4 i5 f_t_cums h H locs hP hD hS ls (lv_sub hl [0, 1, 2, 3, 4, 5] rfl)
  · rw [if_pos c3] at h
    refine lv_aload_n hx hb dX9_read_33 rfl (lv_at hl 0 rfl) ?_
    refine va_get (D := D) (ci := 9) (v := .ref h_t_cums) (C := RX9) (T := TX9) (N := 1) hx hb hq in_wsX90 hown hK hP 0 rfl rfl 0 (by decide) (hq _ q51) (fun _ h9 => h9) rfl dX9_read_34 ?_
    refine lv_iload hx hb dX9_read_37 (lv_at hl 5 rfl) ?_
    refine lv_aload_n hx hb dX9_read_39 rfl (lv_at hl 1 rfl) ?_
    refine lv_iload hx hb dX9_read_40 (lv_at hl 4 rfl) ?_
    refine z_bipush hx hb dX9_read_42 (by decide) ?_
    refine z_imul hx hb dX9_read_44 ?_
    refine lv_iload hx hb dX9_read_45 (lv_at hl 6 rfl) ?_
    refine z_iadd hx hb dX9_read_47 ?_
    obtain ⟨g4, h⟩ := gd_some h
    refine z_iald hx hb hK hP 2 0 rfl rfl (Nat.le_of_ble_eq_true rfl) g4 dX9_read_48 ?_
    refine z_iadd hx hb dX9_read_49 ?_
    refine lv_dup2_11 hx hb dX9_read_50 rfl rfl ?_
    obtain ⟨g5, h⟩ := gd_some h
    refine z_iald hx hb hK hP 1 0 rfl rfl (Nat.le_of_ble_eq_true rfl) g5 dX9_read_51 ?_
    refine z_iconst hx hb dX9_read_52 ?_
    refine z_iadd hx hb dX9_read_53 ?_
    obtain ⟨g6, h⟩ := gd_some h
    refine z_iast (ws' := (wX9_read cA h_t h_t_cums h_a1 (uZ f_t_cums (i5 + (f_a1 ((i4 * 64) + i6).toNat)).toNat ((f_t_cums (i5 + (f_a1 ((i4 * 64) + i6).toNat)).toNat) + 1)) f_a1)) hx hb hK hP hD hS 1 0 rfl rfl (Nat.le_of_ble_eq_true rfl) g6 rfl dX9_read_54 (fun H locs hP hD hS => ?_)
    refine z_iinc (lv' := [(6, .int (iZ (i6 + 1))), (0, .ref h_t), (1, .ref h_a1), (2, .int (iZ x2)), (3, .int (iZ x3)), (4, .int (iZ i4)), (5, .int (iZ i5))]) hx hb dX9_read_55 hl (k := 6) rfl (by decide) rfl (fun ls hl => ?_)
    refine lv_goto (tgt := 27) hx hb dX9_read_58 (by decide) ?_
    exact hrec i4 i5 (i6 + 1) (uZ f_t_cums (i5 + (f_a1 ((i4 * 64) + i6).toNat)).toNat ((f_t_cums (i5 + (f_a1 ((i4 * 64) + i6).toNat)).toNat) + 1)) h H locs hP hD hS ls (lv_sub hl [1, 2, 3, 4, 5, 6, 0] rfl)
theorem wX9_read_L27 (p : Program) (l : Launch) (e : Env) (s : State) (m : MethodId) (args : Array Value) (below : List Frame) (meth : Method) (c : Code) (Q : State → Prop) (G : ZG) (D : va_G) (cA : Nat → ClassId) (A : Nat → Prop) (h_t h_t_cums h_a1 : Nat) (f_a1 : Nat → Int) (x2 : Int) (x3 : Int) (N : Nat) (C : CallFix p m c cX9_read 7 s args vX9_read RX9) (hK : va_K D vwCl (zT cA) s) (hA : ∀ q, s.heap.size ≤ q → A q) (hZ : zSt G A s s.heap) (r : (Nat → Int)) (kr : kX9_read p l e s m args below meth c Q G D cA A h_t h_t_cums h_a1 f_a1 x2 x3 N r) (k : Int → Int → (Nat → Int) → Option ((Nat → Int))) (hk : ∀ (i4 : Int) (i5 : Int) (f_t_cums : Nat → Int), k i4 i5 f_t_cums = some r → sX9_read_61 p l e s m args below meth c Q G D cA A h_t h_t_cums h_a1 f_a1 x2 x3 N i4 i5 f_t_cums) : ∀ (n : Nat) (i4 : Int) (i5 : Int) (i6 : Int) (f_t_cums : Nat → Int), fX9_read_L27 N f_a1 x2 x3 k n i4 i5 i6 f_t_cums = some r → sX9_read_27 p l e s m args below meth c Q G D cA A h_t h_t_cums h_a1 f_a1 x2 x3 N i4 i5 i6 f_t_cums := by
  intro n
  induction n with
  | zero =>
    intro i4 i5 i6 f_t_cums h
    have h : none = some r := h
    cases h
  | succ n ih =>
    intro i4 i5 i6 f_t_cums h
    exact wX9_read_b27 p l e s m args below meth c Q G D cA A h_t h_t_cums h_a1 f_a1 x2 x3 N C hK hA hZ r kr (fX9_read_L27 N f_a1 x2 x3 k n) k ih hk i4 i5 i6 f_t_cums h
set_option maxHeartbeats 4000000 in
set_option maxRecDepth 100000 in
theorem wX9_read_b64 (p : Program) (l : Launch) (e : Env) (s : State) (m : MethodId) (args : Array Value) (below : List Frame) (meth : Method) (c : Code) (Q : State → Prop) (G : ZG) (D : va_G) (cA : Nat → ClassId) (A : Nat → Prop) (h_t h_t_cums h_a1 : Nat) (f_a1 : Nat → Int) (x2 : Int) (x3 : Int) (N : Nat) (C : CallFix p m c cX9_read 7 s args vX9_read RX9) (hK : va_K D vwCl (zT cA) s) (hA : ∀ q, s.heap.size ≤ q → A q) (hZ : zSt G A s s.heap) (r : (Nat → Int)) (kr : kX9_read p l e s m args below meth c Q G D cA A h_t h_t_cums h_a1 f_a1 x2 x3 N r) (rec : Int → Int → Int → (Nat → Int) → Option ((Nat → Int))) (k : Int → (Nat → Int) → Option ((Nat → Int))) (hrec : ∀ (i4 : Int) (i5 : Int) (i6 : Int) (f_t_cums : Nat → Int), rec i4 i5 i6 f_t_cums = some r → sX9_read_64 p l e s m args below meth c Q G D cA A h_t h_t_cums h_a1 f_a1 x2 x3 N i4 i5 i6 f_t_cums) (hk : ∀ (i4 : Int) (f_t_cums : Nat → Int), k i4 f_t_cums = some r → sX9_read_102 p l e s m args below meth c Q G D cA A h_t h_t_cums h_a1 f_a1 x2 x3 N i4 f_t_cums) (i4 : Int) (i5 : Int) (i6 : Int) (f_t_cums : Nat → Int) (h : fX9_read_b64 N f_a1 x2 x3 rec k i4 i5 i6 f_t_cums = some r) : sX9_read_64 p l e s m args below meth c Q G D cA A h_t h_t_cums h_a1 f_a1 x2 x3 N i4 i5 i6 f_t_cums := by
  obtain ⟨hx, hb, hml, hown, hts⟩ := id C
  have hq : ∀ w ∈ wAll, w.before args s = true := fun w h => hts w (List.mem_cons_of_mem _ h)
  intro H locs hP hD hS ls hl
  unfold fX9_read_b64 at h
  refine lv_iload hx hb dX9_read_64 (lv_at hl 6 rfl) ?_
  refine z_bipush hx hb dX9_read_66 (by decide) ?_
  refine z_icmp_ge (tgt := 102) hx hb dX9_read_68 (by decide) (fun c7 => ?_) (fun c7 => ?_)
  · rw [if_neg c7] at h
    exact hk i4 f_t_cums h H locs hP hD hS ls (lv_sub hl [0, 1, 2, 3, 4] rfl)
  · rw [if_pos c7] at h
    refine lv_aload_n hx hb dX9_read_71 rfl (lv_at hl 0 rfl) ?_
    refine va_get (D := D) (ci := 9) (v := .ref h_t_cums) (C := RX9) (T := TX9) (N := 1) hx hb hq in_wsX90 hown hK hP 0 rfl rfl 0 (by decide) (hq _ q51) (fun _ h9 => h9) rfl dX9_read_72 ?_
    refine lv_iload hx hb dX9_read_75 (lv_at hl 5 rfl) ?_
    refine lv_iload hx hb dX9_read_77 (lv_at hl 6 rfl) ?_
    refine z_iadd hx hb dX9_read_79 ?_
    refine lv_dup2_11 hx hb dX9_read_80 rfl rfl ?_
    obtain ⟨g8, h⟩ := gd_some h
    refine z_iald hx hb hK hP 1 0 rfl rfl (Nat.le_of_ble_eq_true rfl) g8 dX9_read_81 ?_
    refine lv_aload_n hx hb dX9_read_82 rfl (lv_at hl 0 rfl) ?_
    refine va_get (D := D) (ci := 9) (v := .ref h_t_cums) (C := RX9) (T := TX9) (N := 1) hx hb hq in_wsX90 hown hK hP 0 rfl rfl 0 (by decide) (hq _ q51) (fun _ h9 => h9) rfl dX9_read_83 ?_
    refine lv_iload hx hb dX9_read_86 (lv_at hl 5 rfl) ?_
    refine lv_iload hx hb dX9_read_88 (lv_at hl 6 rfl) ?_
    refine z_iadd hx hb dX9_read_90 ?_
    refine z_iconst hx hb dX9_read_91 ?_
    refine z_isub hx hb dX9_read_92 ?_
    obtain ⟨g9, h⟩ := gd_some h
    refine z_iald hx hb hK hP 1 0 rfl rfl (Nat.le_of_ble_eq_true rfl) g9 dX9_read_93 ?_
    refine z_iadd hx hb dX9_read_94 ?_
    obtain ⟨g10, h⟩ := gd_some h
    refine z_iast (ws' := (wX9_read cA h_t h_t_cums h_a1 (uZ f_t_cums (i5 + i6).toNat ((f_t_cums (i5 + i6).toNat) + (f_t_cums ((i5 + i6) - 1).toNat))) f_a1)) hx hb hK hP hD hS 1 0 rfl rfl (Nat.le_of_ble_eq_true rfl) g10 rfl dX9_read_95 (fun H locs hP hD hS => ?_)
    refine z_iinc (lv' := [(6, .int (iZ (i6 + 1))), (0, .ref h_t), (1, .ref h_a1), (2, .int (iZ x2)), (3, .int (iZ x3)), (4, .int (iZ i4)), (5, .int (iZ i5))]) hx hb dX9_read_96 hl (k := 6) rfl (by decide) rfl (fun ls hl => ?_)
    refine lv_goto (tgt := 64) hx hb dX9_read_99 (by decide) ?_
    exact hrec i4 i5 (i6 + 1) (uZ f_t_cums (i5 + i6).toNat ((f_t_cums (i5 + i6).toNat) + (f_t_cums ((i5 + i6) - 1).toNat))) h H locs hP hD hS ls (lv_sub hl [1, 2, 3, 4, 5, 6, 0] rfl)
theorem wX9_read_L64 (p : Program) (l : Launch) (e : Env) (s : State) (m : MethodId) (args : Array Value) (below : List Frame) (meth : Method) (c : Code) (Q : State → Prop) (G : ZG) (D : va_G) (cA : Nat → ClassId) (A : Nat → Prop) (h_t h_t_cums h_a1 : Nat) (f_a1 : Nat → Int) (x2 : Int) (x3 : Int) (N : Nat) (C : CallFix p m c cX9_read 7 s args vX9_read RX9) (hK : va_K D vwCl (zT cA) s) (hA : ∀ q, s.heap.size ≤ q → A q) (hZ : zSt G A s s.heap) (r : (Nat → Int)) (kr : kX9_read p l e s m args below meth c Q G D cA A h_t h_t_cums h_a1 f_a1 x2 x3 N r) (k : Int → (Nat → Int) → Option ((Nat → Int))) (hk : ∀ (i4 : Int) (f_t_cums : Nat → Int), k i4 f_t_cums = some r → sX9_read_102 p l e s m args below meth c Q G D cA A h_t h_t_cums h_a1 f_a1 x2 x3 N i4 f_t_cums) : ∀ (n : Nat) (i4 : Int) (i5 : Int) (i6 : Int) (f_t_cums : Nat → Int), fX9_read_L64 N f_a1 x2 x3 k n i4 i5 i6 f_t_cums = some r → sX9_read_64 p l e s m args below meth c Q G D cA A h_t h_t_cums h_a1 f_a1 x2 x3 N i4 i5 i6 f_t_cums := by
  intro n
  induction n with
  | zero =>
    intro i4 i5 i6 f_t_cums h
    have h : none = some r := h
    cases h
  | succ n ih =>
    intro i4 i5 i6 f_t_cums h
    exact wX9_read_b64 p l e s m args below meth c Q G D cA A h_t h_t_cums h_a1 f_a1 x2 x3 N C hK hA hZ r kr (fX9_read_L64 N f_a1 x2 x3 k n) k ih hk i4 i5 i6 f_t_cums h
set_option maxHeartbeats 4000000 in
set_option maxRecDepth 100000 in
theorem wX9_read_j102 (p : Program) (l : Launch) (e : Env) (s : State) (m : MethodId) (args : Array Value) (below : List Frame) (meth : Method) (c : Code) (Q : State → Prop) (G : ZG) (D : va_G) (cA : Nat → ClassId) (A : Nat → Prop) (h_t h_t_cums h_a1 : Nat) (f_a1 : Nat → Int) (x2 : Int) (x3 : Int) (N : Nat) (C : CallFix p m c cX9_read 7 s args vX9_read RX9) (hK : va_K D vwCl (zT cA) s) (hA : ∀ q, s.heap.size ≤ q → A q) (hZ : zSt G A s s.heap) (r : (Nat → Int)) (kr : kX9_read p l e s m args below meth c Q G D cA A h_t h_t_cums h_a1 f_a1 x2 x3 N r) (rec : Int → (Nat → Int) → Option ((Nat → Int))) (k : (Nat → Int) → Option ((Nat → Int))) (hrec : ∀ (i4 : Int) (f_t_cums : Nat → Int), rec i4 f_t_cums = some r → sX9_read_11 p l e s m args below meth c Q G D cA A h_t h_t_cums h_a1 f_a1 x2 x3 N i4 f_t_cums) (hk : ∀ (f_t_cums : Nat → Int), k f_t_cums = some r → sX9_read_108 p l e s m args below meth c Q G D cA A h_t h_t_cums h_a1 f_a1 x2 x3 N f_t_cums) (i4 : Int) (f_t_cums : Nat → Int) (h : fX9_read_j102 N f_a1 x2 x3 rec k i4 f_t_cums = some r) : sX9_read_102 p l e s m args below meth c Q G D cA A h_t h_t_cums h_a1 f_a1 x2 x3 N i4 f_t_cums := by
  obtain ⟨hx, hb, hml, hown, hts⟩ := id C
  have hq : ∀ w ∈ wAll, w.before args s = true := fun w h => hts w (List.mem_cons_of_mem _ h)
  intro H locs hP hD hS ls hl
  unfold fX9_read_j102 at h
  refine z_iinc (lv' := [(4, .int (iZ (i4 + 1))), (0, .ref h_t), (1, .ref h_a1), (2, .int (iZ x2)), (3, .int (iZ x3))]) hx hb dX9_read_102 hl (k := 4) rfl (by decide) rfl (fun ls hl => ?_)
  refine lv_goto (tgt := 11) hx hb dX9_read_105 (by decide) ?_
  exact hrec (i4 + 1) f_t_cums h H locs hP hD hS ls (lv_sub hl [1, 2, 3, 4, 0] rfl)
set_option maxHeartbeats 4000000 in
set_option maxRecDepth 100000 in
theorem wX9_read_j61 (p : Program) (l : Launch) (e : Env) (s : State) (m : MethodId) (args : Array Value) (below : List Frame) (meth : Method) (c : Code) (Q : State → Prop) (G : ZG) (D : va_G) (cA : Nat → ClassId) (A : Nat → Prop) (h_t h_t_cums h_a1 : Nat) (f_a1 : Nat → Int) (x2 : Int) (x3 : Int) (N : Nat) (C : CallFix p m c cX9_read 7 s args vX9_read RX9) (hK : va_K D vwCl (zT cA) s) (hA : ∀ q, s.heap.size ≤ q → A q) (hZ : zSt G A s s.heap) (r : (Nat → Int)) (kr : kX9_read p l e s m args below meth c Q G D cA A h_t h_t_cums h_a1 f_a1 x2 x3 N r) (rec : Int → (Nat → Int) → Option ((Nat → Int))) (k : (Nat → Int) → Option ((Nat → Int))) (hrec : ∀ (i4 : Int) (f_t_cums : Nat → Int), rec i4 f_t_cums = some r → sX9_read_11 p l e s m args below meth c Q G D cA A h_t h_t_cums h_a1 f_a1 x2 x3 N i4 f_t_cums) (hk : ∀ (f_t_cums : Nat → Int), k f_t_cums = some r → sX9_read_108 p l e s m args below meth c Q G D cA A h_t h_t_cums h_a1 f_a1 x2 x3 N f_t_cums) (i4 : Int) (i5 : Int) (f_t_cums : Nat → Int) (h : fX9_read_j61 N f_a1 x2 x3 rec k i4 i5 f_t_cums = some r) : sX9_read_61 p l e s m args below meth c Q G D cA A h_t h_t_cums h_a1 f_a1 x2 x3 N i4 i5 f_t_cums := by
  obtain ⟨hx, hb, hml, hown, hts⟩ := id C
  have hq : ∀ w ∈ wAll, w.before args s = true := fun w h => hts w (List.mem_cons_of_mem _ h)
  intro H locs hP hD hS ls hl
  unfold fX9_read_j61 at h
  refine z_iconst hx hb dX9_read_61 ?_
  refine lv_istore (lv' := [(6, .int (iZ 1)), (0, .ref h_t), (1, .ref h_a1), (2, .int (iZ x2)), (3, .int (iZ x3)), (4, .int (iZ i4)), (5, .int (iZ i5))]) hx hb dX9_read_62 hl (by decide) rfl (fun ls hl => ?_)
  exact wX9_read_L64 p l e s m args below meth c Q G D cA A h_t h_t_cums h_a1 f_a1 x2 x3 N C hK hA hZ r kr (fX9_read_j102 N f_a1 x2 x3 rec k) (fun y0 y1 h9 => wX9_read_j102 p l e s m args below meth c Q G D cA A h_t h_t_cums h_a1 f_a1 x2 x3 N C hK hA hZ r kr rec k hrec hk y0 y1 h9) N i4 i5 1 f_t_cums h H locs hP hD hS ls (lv_sub hl [1, 2, 3, 4, 5, 6, 0] rfl)
set_option maxHeartbeats 4000000 in
set_option maxRecDepth 100000 in
theorem wX9_read_b11 (p : Program) (l : Launch) (e : Env) (s : State) (m : MethodId) (args : Array Value) (below : List Frame) (meth : Method) (c : Code) (Q : State → Prop) (G : ZG) (D : va_G) (cA : Nat → ClassId) (A : Nat → Prop) (h_t h_t_cums h_a1 : Nat) (f_a1 : Nat → Int) (x2 : Int) (x3 : Int) (N : Nat) (C : CallFix p m c cX9_read 7 s args vX9_read RX9) (hK : va_K D vwCl (zT cA) s) (hA : ∀ q, s.heap.size ≤ q → A q) (hZ : zSt G A s s.heap) (r : (Nat → Int)) (kr : kX9_read p l e s m args below meth c Q G D cA A h_t h_t_cums h_a1 f_a1 x2 x3 N r) (rec : Int → (Nat → Int) → Option ((Nat → Int))) (k : (Nat → Int) → Option ((Nat → Int))) (hrec : ∀ (i4 : Int) (f_t_cums : Nat → Int), rec i4 f_t_cums = some r → sX9_read_11 p l e s m args below meth c Q G D cA A h_t h_t_cums h_a1 f_a1 x2 x3 N i4 f_t_cums) (hk : ∀ (f_t_cums : Nat → Int), k f_t_cums = some r → sX9_read_108 p l e s m args below meth c Q G D cA A h_t h_t_cums h_a1 f_a1 x2 x3 N f_t_cums) (i4 : Int) (f_t_cums : Nat → Int) (h : fX9_read_b11 N f_a1 x2 x3 rec k i4 f_t_cums = some r) : sX9_read_11 p l e s m args below meth c Q G D cA A h_t h_t_cums h_a1 f_a1 x2 x3 N i4 f_t_cums := by
  obtain ⟨hx, hb, hml, hown, hts⟩ := id C
  have hq : ∀ w ∈ wAll, w.before args s = true := fun w h => hts w (List.mem_cons_of_mem _ h)
  intro H locs hP hD hS ls hl
  unfold fX9_read_b11 at h
  refine lv_iload hx hb dX9_read_11 (lv_at hl 4 rfl) ?_
  refine lv_iload_n hx hb dX9_read_13 rfl (lv_at hl 2 rfl) ?_
  refine z_icmp_ge (tgt := 108) hx hb dX9_read_14 (by decide) (fun c2 => ?_) (fun c2 => ?_)
  · rw [if_neg c2] at h
    exact hk f_t_cums h H locs hP hD hS ls (lv_sub hl [] rfl)
  · rw [if_pos c2] at h
    refine lv_iload hx hb dX9_read_17 (lv_at hl 4 rfl) ?_
    refine z_bipush hx hb dX9_read_19 (by decide) ?_
    refine z_imul hx hb dX9_read_21 ?_
    refine lv_istore (lv' := [(5, .int (iZ (i4 * 16))), (0, .ref h_t), (1, .ref h_a1), (2, .int (iZ x2)), (3, .int (iZ x3)), (4, .int (iZ i4))]) hx hb dX9_read_22 hl (by decide) rfl (fun ls hl => ?_)
    refine z_iconst hx hb dX9_read_24 ?_
    refine lv_istore (lv' := [(6, .int (iZ 0)), (5, .int (iZ (i4 * 16))), (0, .ref h_t), (1, .ref h_a1), (2, .int (iZ x2)), (3, .int (iZ x3)), (4, .int (iZ i4))]) hx hb dX9_read_25 hl (by decide) rfl (fun ls hl => ?_)
    exact wX9_read_L27 p l e s m args below meth c Q G D cA A h_t h_t_cums h_a1 f_a1 x2 x3 N C hK hA hZ r kr (fX9_read_j61 N f_a1 x2 x3 rec k) (fun y0 y1 y2 h9 => wX9_read_j61 p l e s m args below meth c Q G D cA A h_t h_t_cums h_a1 f_a1 x2 x3 N C hK hA hZ r kr rec k hrec hk y0 y1 y2 h9) N i4 (i4 * 16) 0 f_t_cums h H locs hP hD hS ls (lv_sub hl [2, 3, 4, 5, 6, 1, 0] rfl)
theorem wX9_read_L11 (p : Program) (l : Launch) (e : Env) (s : State) (m : MethodId) (args : Array Value) (below : List Frame) (meth : Method) (c : Code) (Q : State → Prop) (G : ZG) (D : va_G) (cA : Nat → ClassId) (A : Nat → Prop) (h_t h_t_cums h_a1 : Nat) (f_a1 : Nat → Int) (x2 : Int) (x3 : Int) (N : Nat) (C : CallFix p m c cX9_read 7 s args vX9_read RX9) (hK : va_K D vwCl (zT cA) s) (hA : ∀ q, s.heap.size ≤ q → A q) (hZ : zSt G A s s.heap) (r : (Nat → Int)) (kr : kX9_read p l e s m args below meth c Q G D cA A h_t h_t_cums h_a1 f_a1 x2 x3 N r) (k : (Nat → Int) → Option ((Nat → Int))) (hk : ∀ (f_t_cums : Nat → Int), k f_t_cums = some r → sX9_read_108 p l e s m args below meth c Q G D cA A h_t h_t_cums h_a1 f_a1 x2 x3 N f_t_cums) : ∀ (n : Nat) (i4 : Int) (f_t_cums : Nat → Int), fX9_read_L11 N f_a1 x2 x3 k n i4 f_t_cums = some r → sX9_read_11 p l e s m args below meth c Q G D cA A h_t h_t_cums h_a1 f_a1 x2 x3 N i4 f_t_cums := by
  intro n
  induction n with
  | zero =>
    intro i4 f_t_cums h
    have h : none = some r := h
    cases h
  | succ n ih =>
    intro i4 f_t_cums h
    exact wX9_read_b11 p l e s m args below meth c Q G D cA A h_t h_t_cums h_a1 f_a1 x2 x3 N C hK hA hZ r kr (fX9_read_L11 N f_a1 x2 x3 k n) k ih hk i4 f_t_cums h
set_option maxHeartbeats 4000000 in
set_option maxRecDepth 100000 in
theorem wX9_read_j108 (p : Program) (l : Launch) (e : Env) (s : State) (m : MethodId) (args : Array Value) (below : List Frame) (meth : Method) (c : Code) (Q : State → Prop) (G : ZG) (D : va_G) (cA : Nat → ClassId) (A : Nat → Prop) (h_t h_t_cums h_a1 : Nat) (f_a1 : Nat → Int) (x2 : Int) (x3 : Int) (N : Nat) (C : CallFix p m c cX9_read 7 s args vX9_read RX9) (hK : va_K D vwCl (zT cA) s) (hA : ∀ q, s.heap.size ≤ q → A q) (hZ : zSt G A s s.heap) (r : (Nat → Int)) (kr : kX9_read p l e s m args below meth c Q G D cA A h_t h_t_cums h_a1 f_a1 x2 x3 N r) (f_t_cums : Nat → Int) (h : fX9_read_j108 N f_a1 x2 x3 f_t_cums = some r) : sX9_read_108 p l e s m args below meth c Q G D cA A h_t h_t_cums h_a1 f_a1 x2 x3 N f_t_cums := by
  obtain ⟨hx, hb, hml, hown, hts⟩ := id C
  have hq : ∀ w ∈ wAll, w.before args s = true := fun w h => hts w (List.mem_cons_of_mem _ h)
  intro H locs hP hD hS ls hl
  unfold fX9_read_j108 at h
  cases h
  exact kr _ _ _ _ dX9_read_108 hP hD hS
set_option maxHeartbeats 4000000 in
set_option maxRecDepth 100000 in
theorem wX9_read_E (p : Program) (l : Launch) (e : Env) (s : State) (m : MethodId) (args : Array Value) (below : List Frame) (meth : Method) (c : Code) (Q : State → Prop) (G : ZG) (D : va_G) (cA : Nat → ClassId) (A : Nat → Prop) (h_t h_t_cums h_a1 : Nat) (f_a1 : Nat → Int) (x2 : Int) (x3 : Int) (N : Nat) (C : CallFix p m c cX9_read 7 s args vX9_read RX9) (hK : va_K D vwCl (zT cA) s) (hA : ∀ q, s.heap.size ≤ q → A q) (hZ : zSt G A s s.heap) (r : (Nat → Int)) (kr : kX9_read p l e s m args below meth c Q G D cA A h_t h_t_cums h_a1 f_a1 x2 x3 N r) (f_t_cums : Nat → Int) (h : fX9_read N f_a1 f_t_cums x2 x3 = some r) (H : Heap) (locs : List Loc) (hP : va_P D vwCl (wX9_read cA h_t h_t_cums h_a1 f_t_cums f_a1) H) (hD : va_D A (wX9_read cA h_t h_t_cums h_a1 f_t_cums f_a1)) (hS : va_S A s.heap H locs) (ls : Array Slot) (hl : lv_has ls 7 [(0, .ref h_t), (1, .ref h_a1), (2, .int (iZ x2)), (3, .int (iZ x3))]) : W p l e rmX9_read s m args below meth c H locs 0 0 Q (F0 m 0 ls []) := by
  obtain ⟨hx, hb, hml, hown, hts⟩ := id C
  have hq : ∀ w ∈ wAll, w.before args s = true := fun w h => hts w (List.mem_cons_of_mem _ h)
  unfold fX9_read at h
  refine lv_aload_n hx hb dX9_read_0 rfl (lv_at hl 0 rfl) ?_
  refine va_get (D := D) (ci := 9) (v := .ref h_t_cums) (C := RX9) (T := TX9) (N := 1) hx hb hq in_wsX90 hown hK hP 0 rfl rfl 0 (by decide) (hq _ q51) (fun _ h9 => h9) rfl dX9_read_1 ?_
  refine z_iconst hx hb dX9_read_4 ?_
  obtain ⟨r1, e1, h⟩ := bd_some h
  refine z_callSv (G := G) (D := D) (cA := cA) (wc := (wJ7_fill_53178 cA h_t_cums 384 f_t_cums)) (wr := [(h_t, .inr (9, [.ref h_t_cums])), (h_a1, zA (cA 0) 1536 f_a1)]) (w1 := (wJ7_fill_53178 cA h_t_cums 384 r1)) (ws' := (wX9_read cA h_t h_t_cums h_a1 r1 f_a1)) (As := [.ref h_t_cums, .int (iZ 0)]) C hK hA hZ hP hD hS [1] [0, 2] [0, 2, 1] rfl rfl rfl (by decide) (cJ7_fill_53178_m l G D cA h_t_cums 384 f_t_cums 0 H.size N (Nat.le_of_ble_eq_true rfl) e1) (va_cwS 2 hts (gAllS q90 q14 q15 q0) rfl rfl rfl (by decide +kernel) ⟨Nat.le_of_ble_eq_true rfl, Nat.le_of_ble_eq_true rfl⟩) rfl hl.1 rfl (Nat.le_of_ble_eq_true rfl) ⟨Nat.zero_le _, Nat.zero_le _⟩ dX9_read_5 (fun H locs hP hD hS => ?_)
  refine z_iconst hx hb dX9_read_8 ?_
  refine lv_istore (lv' := [(4, .int (iZ 0)), (0, .ref h_t), (1, .ref h_a1), (2, .int (iZ x2)), (3, .int (iZ x3))]) hx hb dX9_read_9 hl (by decide) rfl (fun ls hl => ?_)
  exact wX9_read_L11 p l e s m args below meth c Q G D cA A h_t h_t_cums h_a1 f_a1 x2 x3 N C hK hA hZ r kr (fX9_read_j108 N f_a1 x2 x3) (fun y0 h9 => wX9_read_j108 p l e s m args below meth c Q G D cA A h_t h_t_cums h_a1 f_a1 x2 x3 N C hK hA hZ r kr y0 h9) N 0 r1 h H locs hP hD hS ls (lv_sub hl [1, 2, 3, 4, 0] rfl)
set_option maxHeartbeats 4000000 in
set_option maxRecDepth 100000 in
theorem cX9_read_m (l : Launch) (G : ZG) (D : va_G) (cA : Nat → ClassId) (h_t h_t_cums h_a1 : Nat) (f_t_cums : Nat → Int) (f_a1 : Nat → Int) (x2 : Int) (x3 : Int) (sz N : Nat) {r : (Nat → Int)} (hF : fX9_read N f_a1 f_t_cums x2 x3 = some r) : zMv l yX9_read vX9_read rmX9_read G D cA [.ref h_t, .ref h_a1, .int (iZ x2), .int (iZ x3)] (wX9_read cA h_t h_t_cums h_a1 f_t_cums f_a1) (wX9_read cA h_t h_t_cums h_a1 r f_a1) sz := by
  refine Met.ofW (cc := cX9_read) (maxL := 7) (ret := none) (by decide) rfl ?_
  intro p e s m args below meth c s₁ B hml hv
  obtain ⟨rfl, hsz, hP, hK, hD0, hZ⟩ := hv
  subst hsz
  have hlocks := B.notSynchronized
  have hl := lv_entry ([.ref h_t, .ref h_a1, .int (iZ x2), .int (iZ x3)]) (n := 7) (Nat.le_of_ble_eq_true rfl)
  rw [lg_entry_eq]
  generalize (lg_sl ([.ref h_t, .ref h_a1, .int (iZ x2), .int (iZ x3)]) ++ List.replicate (7 - (lg_sl ([.ref h_t, .ref h_a1, .int (iZ x2), .int (iZ x3)])).length) Slot.unset).toArray = ls at hl ⊢
  exact wX9_read_E p l e s m _ below meth c _ G D cA _ h_t h_t_cums h_a1 f_a1 x2 x3 N ⟨B.exec, B.bytes, hml, findClass_of_methodNamed B.named, atoms_spec (ws := vX9_read) B.pre⟩ hK (fun q h => Or.inr h) hZ r (fun pc H locs ls hd hP hD hS => W.vret B.exec B.bytes B.returns (fun t ht hW => ⟨⟨(), rfl, trivial, by rw [ht]; exact hP, va_K.moved hW.alike hK, hD⟩, hS.F ht⟩) hS.2.2 hd) f_t_cums hF s.heap [] hP (hD0.self (sz := s.heap.size)) va_S.rf ls hl

/-! ===== FlickerDesk$Tally.gap(II)I ===== -/
abbrev rmX9_gap : Room := { frames := 0, cells := 0, slots := 0, locals := 0 }
abbrev wX9_gap (cA : Nat → ClassId) (h_t h_t_cums : Nat) (f_t_cums : Nat → Int) : va_W := [(h_t, .inr (9, [.ref h_t_cums])), (h_t_cums, zA (cA 0) 384 f_t_cums)]
def fX9_gap_b5 (N : Nat) (f_t_cums : Nat → Int) (x1 : Int) (x2 : Int) (rec : Int → Int → Option (Int)) (k : Int → Option (Int)) (i3 : Int) (i4 : Int) : Option (Int) := (if iZ i4 < iZ 16 then (gd ((0 : Int) ≤ (x1 * 16) + i4 ∧ (x1 * 16) + i4 < 384) (gd ((0 : Int) ≤ (x2 * 16) + i4 ∧ (x2 * 16) + i4 < 384) (if iZ ((f_t_cums ((x1 * 16) + i4).toNat) - (f_t_cums ((x2 * 16) + i4).toNat)) < iZ 0 then (rec (i3 + (-((f_t_cums ((x1 * 16) + i4).toNat) - (f_t_cums ((x2 * 16) + i4).toNat)))) (i4 + 1)) else (rec (i3 + ((f_t_cums ((x1 * 16) + i4).toNat) - (f_t_cums ((x2 * 16) + i4).toNat))) (i4 + 1))))) else (k i3))
def fX9_gap_L5 (N : Nat) (f_t_cums : Nat → Int) (x1 : Int) (x2 : Int) (k : Int → Option (Int)) : Nat → Int → Int → Option (Int)
  | 0 => fun _ _ => none
  | n + 1 => fX9_gap_b5 N f_t_cums x1 x2 (fX9_gap_L5 N f_t_cums x1 x2 k n) k
def fX9_gap_j61 (N : Nat) (f_t_cums : Nat → Int) (x1 : Int) (x2 : Int) (i3 : Int) : Option (Int) := (some i3)
def fX9_gap (N : Nat) (f_t_cums : Nat → Int) (x1 : Int) (x2 : Int) : Option (Int) := (fX9_gap_L5 N f_t_cums x1 x2 (fX9_gap_j61 N f_t_cums x1 x2) N 0 0)
abbrev kX9_gap (p : Program) (l : Launch) (e : Env) (s : State) (m : MethodId) (args : Array Value) (below : List Frame) (meth : Method) (c : Code) (Q : State → Prop) (G : ZG) (D : va_G) (cA : Nat → ClassId) (A : Nat → Prop) (h_t h_t_cums : Nat) (f_t_cums : Nat → Int) (x1 : Int) (x2 : Int) (N : Nat) (r : Int) : Prop := ∀ (pc : Nat) (H : Heap) (locs : List Loc) (ls : Array Slot), decode cX9_gap pc = .ok (.ireturn, 1) → va_P D vwCl (wX9_gap cA h_t h_t_cums f_t_cums) H → va_D A (wX9_gap cA h_t h_t_cums f_t_cums) → va_S A s.heap H locs → W p l e rmX9_gap s m args below meth c H locs 0 0 Q (F0 m pc ls [.int (iZ r)])
abbrev sX9_gap_61 (p : Program) (l : Launch) (e : Env) (s : State) (m : MethodId) (args : Array Value) (below : List Frame) (meth : Method) (c : Code) (Q : State → Prop) (G : ZG) (D : va_G) (cA : Nat → ClassId) (A : Nat → Prop) (h_t h_t_cums : Nat) (f_t_cums : Nat → Int) (x1 : Int) (x2 : Int) (N : Nat) (i3 : Int) : Prop := ∀ (H : Heap) (locs : List Loc), va_P D vwCl (wX9_gap cA h_t h_t_cums f_t_cums) H → va_D A (wX9_gap cA h_t h_t_cums f_t_cums) → va_S A s.heap H locs → ∀ ls : Array Slot, lv_has ls 6 [(3, .int (iZ i3))] → W p l e rmX9_gap s m args below meth c H locs 0 0 Q (F0 m 61 ls [])
abbrev sX9_gap_5 (p : Program) (l : Launch) (e : Env) (s : State) (m : MethodId) (args : Array Value) (below : List Frame) (meth : Method) (c : Code) (Q : State → Prop) (G : ZG) (D : va_G) (cA : Nat → ClassId) (A : Nat → Prop) (h_t h_t_cums : Nat) (f_t_cums : Nat → Int) (x1 : Int) (x2 : Int) (N : Nat) (i3 : Int) (i4 : Int) : Prop := ∀ (H : Heap) (locs : List Loc), va_P D vwCl (wX9_gap cA h_t h_t_cums f_t_cums) H → va_D A (wX9_gap cA h_t h_t_cums f_t_cums) → va_S A s.heap H locs → ∀ ls : Array Slot, lv_has ls 6 [(0, .ref h_t), (1, .int (iZ x1)), (2, .int (iZ x2)), (3, .int (iZ i3)), (4, .int (iZ i4))] → W p l e rmX9_gap s m args below meth c H locs 0 0 Q (F0 m 5 ls [])
set_option maxHeartbeats 4000000 in
set_option maxRecDepth 100000 in
theorem wX9_gap_b5 (p : Program) (l : Launch) (e : Env) (s : State) (m : MethodId) (args : Array Value) (below : List Frame) (meth : Method) (c : Code) (Q : State → Prop) (G : ZG) (D : va_G) (cA : Nat → ClassId) (A : Nat → Prop) (h_t h_t_cums : Nat) (f_t_cums : Nat → Int) (x1 : Int) (x2 : Int) (N : Nat) (C : CallFix p m c cX9_gap 6 s args vX9_gap RX9) (hK : va_K D vwCl (zT cA) s) (hA : ∀ q, s.heap.size ≤ q → A q) (hZ : zSt G A s s.heap) (r : Int) (kr : kX9_gap p l e s m args below meth c Q G D cA A h_t h_t_cums f_t_cums x1 x2 N r) (rec : Int → Int → Option (Int)) (k : Int → Option (Int)) (hrec : ∀ (i3 : Int) (i4 : Int), rec i3 i4 = some r → sX9_gap_5 p l e s m args below meth c Q G D cA A h_t h_t_cums f_t_cums x1 x2 N i3 i4) (hk : ∀ (i3 : Int), k i3 = some r → sX9_gap_61 p l e s m args below meth c Q G D cA A h_t h_t_cums f_t_cums x1 x2 N i3) (i3 : Int) (i4 : Int) (h : fX9_gap_b5 N f_t_cums x1 x2 rec k i3 i4 = some r) : sX9_gap_5 p l e s m args below meth c Q G D cA A h_t h_t_cums f_t_cums x1 x2 N i3 i4 := by
  obtain ⟨hx, hb, hml, hown, hts⟩ := id C
  have hq : ∀ w ∈ wAll, w.before args s = true := fun w h => hts w (List.mem_cons_of_mem _ h)
  intro H locs hP hD hS ls hl
  unfold fX9_gap_b5 at h
  refine lv_iload hx hb dX9_gap_5 (lv_at hl 4 rfl) ?_
  refine z_bipush hx hb dX9_gap_7 (by decide) ?_
  refine z_icmp_ge (tgt := 61) hx hb dX9_gap_9 (by decide) (fun c1 => ?_) (fun c1 => ?_)
  · rw [if_neg c1] at h
    exact hk i3 h H locs hP hD hS ls (lv_sub hl [3] rfl)
  · rw [if_pos c1] at h
    refine lv_aload_n hx hb dX9_gap_12 rfl (lv_at hl 0 rfl) ?_
    refine va_get (D := D) (ci := 9) (v := .ref h_t_cums) (C := RX9) (T := TX9) (N := 1) hx hb hq in_wsX90 hown hK hP 0 rfl rfl 0 (by decide) (hq _ q51) (fun _ h9 => h9) rfl dX9_gap_13 ?_
    refine lv_iload_n hx hb dX9_gap_16 rfl (lv_at hl 1 rfl) ?_
    refine z_bipush hx hb dX9_gap_17 (by decide) ?_
    refine z_imul hx hb dX9_gap_19 ?_
    refine lv_iload hx hb dX9_gap_20 (lv_at hl 4 rfl) ?_
    refine z_iadd hx hb dX9_gap_22 ?_
    obtain ⟨g2, h⟩ := gd_some h
    refine z_iald hx hb hK hP 1 0 rfl rfl (Nat.le_of_ble_eq_true rfl) g2 dX9_gap_23 ?_
    refine lv_aload_n hx hb dX9_gap_24 rfl (lv_at hl 0 rfl) ?_
    refine va_get (D := D) (ci := 9) (v := .ref h_t_cums) (C := RX9) (T := TX9) (N := 1) hx hb hq in_wsX90 hown hK hP 0 rfl rfl 0 (by decide) (hq _ q51) (fun _ h9 => h9) rfl dX9_gap_25 ?_
    refine lv_iload_n hx hb dX9_gap_28 rfl (lv_at hl 2 rfl) ?_
    refine z_bipush hx hb dX9_gap_29 (by decide) ?_
    refine z_imul hx hb dX9_gap_31 ?_
    refine lv_iload hx hb dX9_gap_32 (lv_at hl 4 rfl) ?_
    refine z_iadd hx hb dX9_gap_34 ?_
    obtain ⟨g3, h⟩ := gd_some h
    refine z_iald hx hb hK hP 1 0 rfl rfl (Nat.le_of_ble_eq_true rfl) g3 dX9_gap_35 ?_
    refine z_isub hx hb dX9_gap_36 ?_
    refine lv_istore (lv' := [(5, .int (iZ ((f_t_cums ((x1 * 16) + i4).toNat) - (f_t_cums ((x2 * 16) + i4).toNat)))), (0, .ref h_t), (1, .int (iZ x1)), (2, .int (iZ x2)), (3, .int (iZ i3)), (4, .int (iZ i4))]) hx hb dX9_gap_37 hl (by decide) rfl (fun ls hl => ?_)
    refine lv_iload_n hx hb dX9_gap_39 rfl (lv_at hl 4 rfl) ?_
    refine lv_iload hx hb dX9_gap_40 (lv_at hl 0 rfl) ?_
    refine z_if_ge (tgt := 51) hx hb dX9_gap_42 (by decide) (fun c4 => ?_) (fun c4 => ?_)
    · rw [if_neg c4] at h
      refine lv_iload hx hb dX9_gap_51 (lv_at hl 0 rfl) ?_
      refine z_iadd hx hb dX9_gap_53 ?_
      refine lv_istore_n (lv' := [(3, .int (iZ (i3 + ((f_t_cums ((x1 * 16) + i4).toNat) - (f_t_cums ((x2 * 16) + i4).toNat))))), (5, .int (iZ ((f_t_cums ((x1 * 16) + i4).toNat) - (f_t_cums ((x2 * 16) + i4).toNat)))), (0, .ref h_t), (1, .int (iZ x1)), (2, .int (iZ x2)), (4, .int (iZ i4))]) hx hb dX9_gap_54 rfl hl (by decide) rfl (fun ls hl => ?_)
      refine z_iinc (lv' := [(4, .int (iZ (i4 + 1))), (3, .int (iZ (i3 + ((f_t_cums ((x1 * 16) + i4).toNat) - (f_t_cums ((x2 * 16) + i4).toNat))))), (5, .int (iZ ((f_t_cums ((x1 * 16) + i4).toNat) - (f_t_cums ((x2 * 16) + i4).toNat)))), (0, .ref h_t), (1, .int (iZ x1)), (2, .int (iZ x2))]) hx hb dX9_gap_55 hl (k := 5) rfl (by decide) rfl (fun ls hl => ?_)
      refine lv_goto (tgt := 5) hx hb dX9_gap_58 (by decide) ?_
      exact hrec (i3 + ((f_t_cums ((x1 * 16) + i4).toNat) - (f_t_cums ((x2 * 16) + i4).toNat))) (i4 + 1) h H locs hP hD hS ls (lv_sub hl [3, 4, 5, 1, 0] rfl)
    · rw [if_pos c4] at h
      refine lv_iload hx hb dX9_gap_45 (lv_at hl 0 rfl) ?_
      refine z_ineg hx hb dX9_gap_47 ?_
      refine lv_goto (tgt := 53) hx hb dX9_gap_48 (by decide) ?_
      refine z_iadd hx hb dX9_gap_53 ?_
      refine lv_istore_n (lv' := [(3, .int (iZ (i3 + (-((f_t_cums ((x1 * 16) + i4).toNat) - (f_t_cums ((x2 * 16) + i4).toNat)))))), (5, .int (iZ ((f_t_cums ((x1 * 16) + i4).toNat) - (f_t_cums ((x2 * 16) + i4).toNat)))), (0, .ref h_t), (1, .int (iZ x1)), (2, .int (iZ x2)), (4, .int (iZ i4))]) hx hb dX9_gap_54 rfl hl (by decide) rfl (fun ls hl => ?_)
      refine z_iinc (lv' := [(4, .int (iZ (i4 + 1))), (3, .int (iZ (i3 + (-((f_t_cums ((x1 * 16) + i4).toNat) - (f_t_cums ((x2 * 16) + i4).toNat)))))), (5, .int (iZ ((f_t_cums ((x1 * 16) + i4).toNat) - (f_t_cums ((x2 * 16) + i4).toNat)))), (0, .ref h_t), (1, .int (iZ x1)), (2, .int (iZ x2))]) hx hb dX9_gap_55 hl (k := 5) rfl (by decide) rfl (fun ls hl => ?_)
      refine lv_goto (tgt := 5) hx hb dX9_gap_58 (by decide) ?_
      exact hrec (i3 + (-((f_t_cums ((x1 * 16) + i4).toNat) - (f_t_cums ((x2 * 16) + i4).toNat)))) (i4 + 1) h H locs hP hD hS ls (lv_sub hl [3, 4, 5, 1, 0] rfl)
theorem wX9_gap_L5 (p : Program) (l : Launch) (e : Env) (s : State) (m : MethodId) (args : Array Value) (below : List Frame) (meth : Method) (c : Code) (Q : State → Prop) (G : ZG) (D : va_G) (cA : Nat → ClassId) (A : Nat → Prop) (h_t h_t_cums : Nat) (f_t_cums : Nat → Int) (x1 : Int) (x2 : Int) (N : Nat) (C : CallFix p m c cX9_gap 6 s args vX9_gap RX9) (hK : va_K D vwCl (zT cA) s) (hA : ∀ q, s.heap.size ≤ q → A q) (hZ : zSt G A s s.heap) (r : Int) (kr : kX9_gap p l e s m args below meth c Q G D cA A h_t h_t_cums f_t_cums x1 x2 N r) (k : Int → Option (Int)) (hk : ∀ (i3 : Int), k i3 = some r → sX9_gap_61 p l e s m args below meth c Q G D cA A h_t h_t_cums f_t_cums x1 x2 N i3) : ∀ (n : Nat) (i3 : Int) (i4 : Int), fX9_gap_L5 N f_t_cums x1 x2 k n i3 i4 = some r → sX9_gap_5 p l e s m args below meth c Q G D cA A h_t h_t_cums f_t_cums x1 x2 N i3 i4 := by
  intro n
  induction n with
  | zero =>
    intro i3 i4 h
    have h : none = some r := h
    cases h
  | succ n ih =>
    intro i3 i4 h
    exact wX9_gap_b5 p l e s m args below meth c Q G D cA A h_t h_t_cums f_t_cums x1 x2 N C hK hA hZ r kr (fX9_gap_L5 N f_t_cums x1 x2 k n) k ih hk i3 i4 h
set_option maxHeartbeats 4000000 in
set_option maxRecDepth 100000 in
theorem wX9_gap_j61 (p : Program) (l : Launch) (e : Env) (s : State) (m : MethodId) (args : Array Value) (below : List Frame) (meth : Method) (c : Code) (Q : State → Prop) (G : ZG) (D : va_G) (cA : Nat → ClassId) (A : Nat → Prop) (h_t h_t_cums : Nat) (f_t_cums : Nat → Int) (x1 : Int) (x2 : Int) (N : Nat) (C : CallFix p m c cX9_gap 6 s args vX9_gap RX9) (hK : va_K D vwCl (zT cA) s) (hA : ∀ q, s.heap.size ≤ q → A q) (hZ : zSt G A s s.heap) (r : Int) (kr : kX9_gap p l e s m args below meth c Q G D cA A h_t h_t_cums f_t_cums x1 x2 N r) (i3 : Int) (h : fX9_gap_j61 N f_t_cums x1 x2 i3 = some r) : sX9_gap_61 p l e s m args below meth c Q G D cA A h_t h_t_cums f_t_cums x1 x2 N i3 := by
  obtain ⟨hx, hb, hml, hown, hts⟩ := id C
  have hq : ∀ w ∈ wAll, w.before args s = true := fun w h => hts w (List.mem_cons_of_mem _ h)
  intro H locs hP hD hS ls hl
  unfold fX9_gap_j61 at h
  refine lv_iload_n hx hb dX9_gap_61 rfl (lv_at hl 0 rfl) ?_
  cases h
  exact kr _ _ _ _ dX9_gap_62 hP hD hS
set_option maxHeartbeats 4000000 in
set_option maxRecDepth 100000 in
theorem wX9_gap_E (p : Program) (l : Launch) (e : Env) (s : State) (m : MethodId) (args : Array Value) (below : List Frame) (meth : Method) (c : Code) (Q : State → Prop) (G : ZG) (D : va_G) (cA : Nat → ClassId) (A : Nat → Prop) (h_t h_t_cums : Nat) (f_t_cums : Nat → Int) (x1 : Int) (x2 : Int) (N : Nat) (C : CallFix p m c cX9_gap 6 s args vX9_gap RX9) (hK : va_K D vwCl (zT cA) s) (hA : ∀ q, s.heap.size ≤ q → A q) (hZ : zSt G A s s.heap) (r : Int) (kr : kX9_gap p l e s m args below meth c Q G D cA A h_t h_t_cums f_t_cums x1 x2 N r) (h : fX9_gap N f_t_cums x1 x2 = some r) (H : Heap) (locs : List Loc) (hP : va_P D vwCl (wX9_gap cA h_t h_t_cums f_t_cums) H) (hD : va_D A (wX9_gap cA h_t h_t_cums f_t_cums)) (hS : va_S A s.heap H locs) (ls : Array Slot) (hl : lv_has ls 6 [(0, .ref h_t), (1, .int (iZ x1)), (2, .int (iZ x2))]) : W p l e rmX9_gap s m args below meth c H locs 0 0 Q (F0 m 0 ls []) := by
  obtain ⟨hx, hb, hml, hown, hts⟩ := id C
  have hq : ∀ w ∈ wAll, w.before args s = true := fun w h => hts w (List.mem_cons_of_mem _ h)
  unfold fX9_gap at h
  refine z_iconst hx hb dX9_gap_0 ?_
  refine lv_istore_n (lv' := [(3, .int (iZ 0)), (0, .ref h_t), (1, .int (iZ x1)), (2, .int (iZ x2))]) hx hb dX9_gap_1 rfl hl (by decide) rfl (fun ls hl => ?_)
  refine z_iconst hx hb dX9_gap_2 ?_
  refine lv_istore (lv' := [(4, .int (iZ 0)), (3, .int (iZ 0)), (0, .ref h_t), (1, .int (iZ x1)), (2, .int (iZ x2))]) hx hb dX9_gap_3 hl (by decide) rfl (fun ls hl => ?_)
  exact wX9_gap_L5 p l e s m args below meth c Q G D cA A h_t h_t_cums f_t_cums x1 x2 N C hK hA hZ r kr (fX9_gap_j61 N f_t_cums x1 x2) (fun y0 h9 => wX9_gap_j61 p l e s m args below meth c Q G D cA A h_t h_t_cums f_t_cums x1 x2 N C hK hA hZ r kr y0 h9) N 0 0 h H locs hP hD hS ls (lv_sub hl [2, 3, 4, 1, 0] rfl)
set_option maxHeartbeats 4000000 in
set_option maxRecDepth 100000 in
theorem cX9_gap_m (l : Launch) (G : ZG) (D : va_G) (cA : Nat → ClassId) (h_t h_t_cums : Nat) (f_t_cums : Nat → Int) (x1 : Int) (x2 : Int) (sz N : Nat) {r : Int} (hF : fX9_gap N f_t_cums x1 x2 = some r) : zMi l yX9_gap vX9_gap rmX9_gap G D cA [.ref h_t, .int (iZ x1), .int (iZ x2)] (wX9_gap cA h_t h_t_cums f_t_cums) (wX9_gap cA h_t h_t_cums f_t_cums) r sz := by
  refine Met.ofW (cc := cX9_gap) (maxL := 6) (ret := (some .int)) (by decide) rfl ?_
  intro p e s m args below meth c s₁ B hml hv
  obtain ⟨rfl, hsz, hP, hK, hD0, hZ⟩ := hv
  subst hsz
  have hlocks := B.notSynchronized
  have hl := lv_entry ([.ref h_t, .int (iZ x1), .int (iZ x2)]) (n := 6) (Nat.le_of_ble_eq_true rfl)
  rw [lg_entry_eq]
  generalize (lg_sl ([.ref h_t, .int (iZ x1), .int (iZ x2)]) ++ List.replicate (6 - (lg_sl ([.ref h_t, .int (iZ x1), .int (iZ x2)])).length) Slot.unset).toArray = ls at hl ⊢
  exact wX9_gap_E p l e s m _ below meth c _ G D cA _ h_t h_t_cums f_t_cums x1 x2 N ⟨B.exec, B.bytes, hml, findClass_of_methodNamed B.named, atoms_spec (ws := vX9_gap) B.pre⟩ hK (fun q h => Or.inr h) hZ r (fun pc H locs ls hd hP hD hS => W.iret B.exec B.bytes B.returns (fun t ht hW => ⟨⟨_, (), rfl, rfl, by rw [ht]; exact hP, va_K.moved hW.alike hK, hD⟩, hS.F ht⟩) hS.2.2 hd) hF s.heap [] hP (hD0.self (sz := s.heap.size)) va_S.rf ls hl

/-! ===== FlickerDesk$Film.keeps(I)Z ===== -/
abbrev rmX2_keeps : Room := { frames := 0, cells := 0, slots := 0, locals := 0 }
abbrev wX2_keeps (cA : Nat → ClassId) (h_t h_t_settings h_t_dots h_t_cuts h_t_skips h_t_weights : Nat) (v_t_wide : Int) (v_t_high : Int) (v_t_frames : Int) (f_t_settings : Nat → Int) : va_W := [(h_t, .inr (2, [.ref h_t_dots, .ref h_t_cuts, .ref h_t_skips, .ref h_t_settings, .ref h_t_weights, .int (iZ v_t_wide), .int (iZ v_t_high), .int (iZ v_t_frames)])), (h_t_settings, zA (cA 0) 6 f_t_settings)]
def fX2_keeps (N : Nat) (f_t_settings : Nat → Int) (x1 : Int) : Option (Int) := (gd ((0 : Int) ≤ (1 : Int) ∧ (1 : Int) < 6) (if iZ (f_t_settings (1 : Int).toNat) < iZ x1 then (gd ((0 : Int) ≤ (2 : Int) ∧ (2 : Int) < 6) (if iZ x1 < iZ (f_t_settings (2 : Int).toNat) then (some 0) else (some 1))) else (some 1)))
abbrev kX2_keeps (p : Program) (l : Launch) (e : Env) (s : State) (m : MethodId) (args : Array Value) (below : List Frame) (meth : Method) (c : Code) (Q : State → Prop) (G : ZG) (D : va_G) (cA : Nat → ClassId) (A : Nat → Prop) (h_t h_t_settings h_t_dots h_t_cuts h_t_skips h_t_weights : Nat) (v_t_wide : Int) (v_t_high : Int) (v_t_frames : Int) (f_t_settings : Nat → Int) (x1 : Int) (N : Nat) (r : Int) : Prop := ∀ (pc : Nat) (H : Heap) (locs : List Loc) (ls : Array Slot), decode cX2_keeps pc = .ok (.ireturn, 1) → narrow .boolean (.int (iZ r)) = .int (iZ r) → va_P D vwCl (wX2_keeps cA h_t h_t_settings h_t_dots h_t_cuts h_t_skips h_t_weights v_t_wide v_t_high v_t_frames f_t_settings) H → va_D A (wX2_keeps cA h_t h_t_settings h_t_dots h_t_cuts h_t_skips h_t_weights v_t_wide v_t_high v_t_frames f_t_settings) → va_S A s.heap H locs → W p l e rmX2_keeps s m args below meth c H locs 0 0 Q (F0 m pc ls [.int (iZ r)])
set_option maxHeartbeats 4000000 in
set_option maxRecDepth 100000 in
theorem wX2_keeps_E (p : Program) (l : Launch) (e : Env) (s : State) (m : MethodId) (args : Array Value) (below : List Frame) (meth : Method) (c : Code) (Q : State → Prop) (G : ZG) (D : va_G) (cA : Nat → ClassId) (A : Nat → Prop) (h_t h_t_settings h_t_dots h_t_cuts h_t_skips h_t_weights : Nat) (v_t_wide : Int) (v_t_high : Int) (v_t_frames : Int) (f_t_settings : Nat → Int) (x1 : Int) (N : Nat) (C : CallFix p m c cX2_keeps 2 s args vX2_keeps RX2) (hK : va_K D vwCl (zT cA) s) (hA : ∀ q, s.heap.size ≤ q → A q) (hZ : zSt G A s s.heap) (r : Int) (kr : kX2_keeps p l e s m args below meth c Q G D cA A h_t h_t_settings h_t_dots h_t_cuts h_t_skips h_t_weights v_t_wide v_t_high v_t_frames f_t_settings x1 N r) (h : fX2_keeps N f_t_settings x1 = some r) (H : Heap) (locs : List Loc) (hP : va_P D vwCl (wX2_keeps cA h_t h_t_settings h_t_dots h_t_cuts h_t_skips h_t_weights v_t_wide v_t_high v_t_frames f_t_settings) H) (hD : va_D A (wX2_keeps cA h_t h_t_settings h_t_dots h_t_cuts h_t_skips h_t_weights v_t_wide v_t_high v_t_frames f_t_settings)) (hS : va_S A s.heap H locs) (ls : Array Slot) (hl : lv_has ls 2 [(0, .ref h_t), (1, .int (iZ x1))]) : W p l e rmX2_keeps s m args below meth c H locs 0 0 Q (F0 m 0 ls []) := by
  obtain ⟨hx, hb, hml, hown, hts⟩ := id C
  have hq : ∀ w ∈ wAll, w.before args s = true := fun w h => hts w (List.mem_cons_of_mem _ h)
  unfold fX2_keeps at h
  refine lv_iload_n hx hb dX2_keeps_0 rfl (lv_at hl 1 rfl) ?_
  refine lv_aload_n hx hb dX2_keeps_1 rfl (lv_at hl 0 rfl) ?_
  refine va_get (D := D) (ci := 2) (v := .ref h_t_settings) (C := RX2) (T := TX2) (N := 8) hx hb hq in_wsX20 hown hK hP 0 rfl rfl 3 (by decide) (hq _ q8) (fun _ h9 => h9) rfl dX2_keeps_2 ?_
  refine z_iconst hx hb dX2_keeps_5 ?_
  obtain ⟨g1, h⟩ := gd_some h
  refine z_iald hx hb hK hP 1 0 rfl rfl (Nat.le_of_ble_eq_true rfl) g1 dX2_keeps_6 ?_
  refine z_icmp_le (tgt := 20) hx hb dX2_keeps_7 (by decide) (fun c2 => ?_) (fun c2 => ?_)
  · rw [if_neg c2] at h
    refine z_iconst hx hb dX2_keeps_20 ?_
    refine lv_goto (tgt := 25) hx hb dX2_keeps_21 (by decide) ?_
    cases h
    exact kr _ _ _ _ dX2_keeps_25 (zb_nar (Or.inr rfl)) hP hD hS
  · rw [if_pos c2] at h
    refine lv_iload_n hx hb dX2_keeps_10 rfl (lv_at hl 1 rfl) ?_
    refine lv_aload_n hx hb dX2_keeps_11 rfl (lv_at hl 0 rfl) ?_
    refine va_get (D := D) (ci := 2) (v := .ref h_t_settings) (C := RX2) (T := TX2) (N := 8) hx hb hq in_wsX20 hown hK hP 0 rfl rfl 3 (by decide) (hq _ q8) (fun _ h9 => h9) rfl dX2_keeps_12 ?_
    refine z_iconst hx hb dX2_keeps_15 ?_
    obtain ⟨g3, h⟩ := gd_some h
    refine z_iald hx hb hK hP 1 0 rfl rfl (Nat.le_of_ble_eq_true rfl) g3 dX2_keeps_16 ?_
    refine z_icmp_lt (tgt := 24) hx hb dX2_keeps_17 (by decide) (fun c4 => ?_) (fun c4 => ?_)
    · rw [if_pos c4] at h
      refine z_iconst hx hb dX2_keeps_24 ?_
      cases h
      exact kr _ _ _ _ dX2_keeps_25 (zb_nar (Or.inl rfl)) hP hD hS
    · rw [if_neg c4] at h
      refine z_iconst hx hb dX2_keeps_20 ?_
      refine lv_goto (tgt := 25) hx hb dX2_keeps_21 (by decide) ?_
      cases h
      exact kr _ _ _ _ dX2_keeps_25 (zb_nar (Or.inr rfl)) hP hD hS
set_option maxHeartbeats 4000000 in
set_option maxRecDepth 100000 in
theorem cX2_keeps_m (l : Launch) (G : ZG) (D : va_G) (cA : Nat → ClassId) (h_t h_t_settings h_t_dots h_t_cuts h_t_skips h_t_weights : Nat) (v_t_wide : Int) (v_t_high : Int) (v_t_frames : Int) (f_t_settings : Nat → Int) (x1 : Int) (sz N : Nat) {r : Int} (hF : fX2_keeps N f_t_settings x1 = some r) : zMi l yX2_keeps vX2_keeps rmX2_keeps G D cA [.ref h_t, .int (iZ x1)] (wX2_keeps cA h_t h_t_settings h_t_dots h_t_cuts h_t_skips h_t_weights v_t_wide v_t_high v_t_frames f_t_settings) (wX2_keeps cA h_t h_t_settings h_t_dots h_t_cuts h_t_skips h_t_weights v_t_wide v_t_high v_t_frames f_t_settings) r sz := by
  refine Met.ofW (cc := cX2_keeps) (maxL := 2) (ret := (some .boolean)) (by decide) rfl ?_
  intro p e s m args below meth c s₁ B hml hv
  obtain ⟨rfl, hsz, hP, hK, hD0, hZ⟩ := hv
  subst hsz
  have hlocks := B.notSynchronized
  have hl := lv_entry ([.ref h_t, .int (iZ x1)]) (n := 2) (Nat.le_of_ble_eq_true rfl)
  rw [lg_entry_eq]
  generalize (lg_sl ([.ref h_t, .int (iZ x1)]) ++ List.replicate (2 - (lg_sl ([.ref h_t, .int (iZ x1)])).length) Slot.unset).toArray = ls at hl ⊢
  exact wX2_keeps_E p l e s m _ below meth c _ G D cA _ h_t h_t_settings h_t_dots h_t_cuts h_t_skips h_t_weights v_t_wide v_t_high v_t_frames f_t_settings x1 N ⟨B.exec, B.bytes, hml, findClass_of_methodNamed B.named, atoms_spec (ws := vX2_keeps) B.pre⟩ hK (fun q h => Or.inr h) hZ r (fun pc H locs ls hd hnar hP hD hS => W.zret B.exec B.bytes B.returns hnar (fun t ht hW => ⟨⟨_, (), rfl, rfl, by rw [ht]; exact hP, va_K.moved hW.alike hK, hD⟩, hS.F ht⟩) hS.2.2 hd) hF s.heap [] hP (hD0.self (sz := s.heap.size)) va_S.rf ls hl

/-! ===== FlickerDesk$Film.bounded(II)I ===== -/
abbrev rmX2_bounded : Room := { frames := 1, cells := 0, slots := 0, locals := 24 }
abbrev wX2_bounded (cA : Nat → ClassId) (h_t h_t_settings h_t_dots h_t_cuts h_t_skips h_t_weights : Nat) (v_t_wide : Int) (v_t_high : Int) (v_t_frames : Int) (f_t_settings : Nat → Int) : va_W := [(h_t, .inr (2, [.ref h_t_dots, .ref h_t_cuts, .ref h_t_skips, .ref h_t_settings, .ref h_t_weights, .int (iZ v_t_wide), .int (iZ v_t_high), .int (iZ v_t_frames)])), (h_t_settings, zA (cA 0) 6 f_t_settings)]
def fX2_bounded (N : Nat) (f_t_settings : Nat → Int) (x1 : Int) (x2 : Int) : Option (Int) := (gd ((0 : Int) ≤ (1 : Int) ∧ (1 : Int) < 6) (gd ((0 : Int) ≤ (2 : Int) ∧ (2 : Int) < 6) (gd ((0 : Int) ≤ (3 : Int) ∧ (3 : Int) < 6) (some (mnZ (mxZ (mnZ (mxZ x2 (f_t_settings (1 : Int).toNat)) (f_t_settings (2 : Int).toNat)) (x1 - (f_t_settings (3 : Int).toNat))) (x1 + (f_t_settings (3 : Int).toNat)))))))
abbrev kX2_bounded (p : Program) (l : Launch) (e : Env) (s : State) (m : MethodId) (args : Array Value) (below : List Frame) (meth : Method) (c : Code) (Q : State → Prop) (G : ZG) (D : va_G) (cA : Nat → ClassId) (A : Nat → Prop) (h_t h_t_settings h_t_dots h_t_cuts h_t_skips h_t_weights : Nat) (v_t_wide : Int) (v_t_high : Int) (v_t_frames : Int) (f_t_settings : Nat → Int) (x1 : Int) (x2 : Int) (N : Nat) (r : Int) : Prop := ∀ (pc : Nat) (H : Heap) (locs : List Loc) (ls : Array Slot), decode cX2_bounded pc = .ok (.ireturn, 1) → va_P D vwCl (wX2_bounded cA h_t h_t_settings h_t_dots h_t_cuts h_t_skips h_t_weights v_t_wide v_t_high v_t_frames f_t_settings) H → va_D A (wX2_bounded cA h_t h_t_settings h_t_dots h_t_cuts h_t_skips h_t_weights v_t_wide v_t_high v_t_frames f_t_settings) → va_S A s.heap H locs → W p l e rmX2_bounded s m args below meth c H locs 0 0 Q (F0 m pc ls [.int (iZ r)])
set_option maxHeartbeats 4000000 in
set_option maxRecDepth 100000 in
theorem wX2_bounded_E (p : Program) (l : Launch) (e : Env) (s : State) (m : MethodId) (args : Array Value) (below : List Frame) (meth : Method) (c : Code) (Q : State → Prop) (G : ZG) (D : va_G) (cA : Nat → ClassId) (A : Nat → Prop) (h_t h_t_settings h_t_dots h_t_cuts h_t_skips h_t_weights : Nat) (v_t_wide : Int) (v_t_high : Int) (v_t_frames : Int) (f_t_settings : Nat → Int) (x1 : Int) (x2 : Int) (N : Nat) (C : CallFix p m c cX2_bounded 5 s args vX2_bounded RX2) (hK : va_K D vwCl (zT cA) s) (hA : ∀ q, s.heap.size ≤ q → A q) (hZ : zSt G A s s.heap) (r : Int) (kr : kX2_bounded p l e s m args below meth c Q G D cA A h_t h_t_settings h_t_dots h_t_cuts h_t_skips h_t_weights v_t_wide v_t_high v_t_frames f_t_settings x1 x2 N r) (h : fX2_bounded N f_t_settings x1 x2 = some r) (H : Heap) (locs : List Loc) (hP : va_P D vwCl (wX2_bounded cA h_t h_t_settings h_t_dots h_t_cuts h_t_skips h_t_weights v_t_wide v_t_high v_t_frames f_t_settings) H) (hD : va_D A (wX2_bounded cA h_t h_t_settings h_t_dots h_t_cuts h_t_skips h_t_weights v_t_wide v_t_high v_t_frames f_t_settings)) (hS : va_S A s.heap H locs) (ls : Array Slot) (hl : lv_has ls 5 [(0, .ref h_t), (1, .int (iZ x1)), (2, .int (iZ x2))]) : W p l e rmX2_bounded s m args below meth c H locs 0 0 Q (F0 m 0 ls []) := by
  obtain ⟨hx, hb, hml, hown, hts⟩ := id C
  have hq : ∀ w ∈ wAll, w.before args s = true := fun w h => hts w (List.mem_cons_of_mem _ h)
  unfold fX2_bounded at h
  refine lv_iload_n hx hb dX2_bounded_0 rfl (lv_at hl 2 rfl) ?_
  refine lv_aload_n hx hb dX2_bounded_1 rfl (lv_at hl 0 rfl) ?_
  refine va_get (D := D) (ci := 2) (v := .ref h_t_settings) (C := RX2) (T := TX2) (N := 8) hx hb hq in_wsX20 hown hK hP 0 rfl rfl 3 (by decide) (hq _ q8) (fun _ h9 => h9) rfl dX2_bounded_2 ?_
  refine z_iconst hx hb dX2_bounded_5 ?_
  obtain ⟨g1, h⟩ := gd_some h
  refine z_iald hx hb hK hP 1 0 rfl rfl (Nat.le_of_ble_eq_true rfl) g1 dX2_bounded_6 ?_
  refine z_mmax hx hb (by rw [hml]; exact hl.1.symm) hown (hq _ q172) (hq _ q132) (hq _ q133) (hq _ q134) (Nat.le_of_ble_eq_true rfl) (Nat.le_of_ble_eq_true rfl) (Nat.zero_le _) (Nat.zero_le _) dX2_bounded_7 ?_
  refine lv_aload_n hx hb dX2_bounded_10 rfl (lv_at hl 0 rfl) ?_
  refine va_get (D := D) (ci := 2) (v := .ref h_t_settings) (C := RX2) (T := TX2) (N := 8) hx hb hq in_wsX20 hown hK hP 0 rfl rfl 3 (by decide) (hq _ q8) (fun _ h9 => h9) rfl dX2_bounded_11 ?_
  refine z_iconst hx hb dX2_bounded_14 ?_
  obtain ⟨g2, h⟩ := gd_some h
  refine z_iald hx hb hK hP 1 0 rfl rfl (Nat.le_of_ble_eq_true rfl) g2 dX2_bounded_15 ?_
  refine z_mmin hx hb (by rw [hml]; exact hl.1.symm) hown (hq _ q173) (hq _ q141) (hq _ q133) (hq _ q142) (Nat.le_of_ble_eq_true rfl) (Nat.le_of_ble_eq_true rfl) (Nat.zero_le _) (Nat.zero_le _) dX2_bounded_16 ?_
  refine lv_istore_n (lv' := [(3, .int (iZ (mnZ (mxZ x2 (f_t_settings (1 : Int).toNat)) (f_t_settings (2 : Int).toNat)))), (0, .ref h_t), (1, .int (iZ x1)), (2, .int (iZ x2))]) hx hb dX2_bounded_19 rfl hl (by decide) rfl (fun ls hl => ?_)
  refine lv_aload_n hx hb dX2_bounded_20 rfl (lv_at hl 1 rfl) ?_
  refine va_get (D := D) (ci := 2) (v := .ref h_t_settings) (C := RX2) (T := TX2) (N := 8) hx hb hq in_wsX20 hown hK hP 0 rfl rfl 3 (by decide) (hq _ q8) (fun _ h9 => h9) rfl dX2_bounded_21 ?_
  refine z_iconst hx hb dX2_bounded_24 ?_
  obtain ⟨g3, h⟩ := gd_some h
  refine z_iald hx hb hK hP 1 0 rfl rfl (Nat.le_of_ble_eq_true rfl) g3 dX2_bounded_25 ?_
  refine lv_istore (lv' := [(4, .int (iZ (f_t_settings (3 : Int).toNat))), (3, .int (iZ (mnZ (mxZ x2 (f_t_settings (1 : Int).toNat)) (f_t_settings (2 : Int).toNat)))), (0, .ref h_t), (1, .int (iZ x1)), (2, .int (iZ x2))]) hx hb dX2_bounded_26 hl (by decide) rfl (fun ls hl => ?_)
  refine lv_iload_n hx hb dX2_bounded_28 rfl (lv_at hl 1 rfl) ?_
  refine lv_iload_n hx hb dX2_bounded_29 rfl (lv_at hl 3 rfl) ?_
  refine lv_iload hx hb dX2_bounded_30 (lv_at hl 0 rfl) ?_
  refine z_isub hx hb dX2_bounded_32 ?_
  refine z_mmax hx hb (by rw [hml]; exact hl.1.symm) hown (hq _ q172) (hq _ q132) (hq _ q133) (hq _ q134) (Nat.le_of_ble_eq_true rfl) (Nat.le_of_ble_eq_true rfl) (Nat.zero_le _) (Nat.zero_le _) dX2_bounded_33 ?_
  refine lv_iload_n hx hb dX2_bounded_36 rfl (lv_at hl 3 rfl) ?_
  refine lv_iload hx hb dX2_bounded_37 (lv_at hl 0 rfl) ?_
  refine z_iadd hx hb dX2_bounded_39 ?_
  refine z_mmin hx hb (by rw [hml]; exact hl.1.symm) hown (hq _ q173) (hq _ q141) (hq _ q133) (hq _ q142) (Nat.le_of_ble_eq_true rfl) (Nat.le_of_ble_eq_true rfl) (Nat.zero_le _) (Nat.zero_le _) dX2_bounded_40 ?_
  cases h
  exact kr _ _ _ _ dX2_bounded_43 hP hD hS
set_option maxHeartbeats 4000000 in
set_option maxRecDepth 100000 in
theorem cX2_bounded_m (l : Launch) (G : ZG) (D : va_G) (cA : Nat → ClassId) (h_t h_t_settings h_t_dots h_t_cuts h_t_skips h_t_weights : Nat) (v_t_wide : Int) (v_t_high : Int) (v_t_frames : Int) (f_t_settings : Nat → Int) (x1 : Int) (x2 : Int) (sz N : Nat) {r : Int} (hF : fX2_bounded N f_t_settings x1 x2 = some r) : zMi l yX2_bounded vX2_bounded rmX2_bounded G D cA [.ref h_t, .int (iZ x1), .int (iZ x2)] (wX2_bounded cA h_t h_t_settings h_t_dots h_t_cuts h_t_skips h_t_weights v_t_wide v_t_high v_t_frames f_t_settings) (wX2_bounded cA h_t h_t_settings h_t_dots h_t_cuts h_t_skips h_t_weights v_t_wide v_t_high v_t_frames f_t_settings) r sz := by
  refine Met.ofW (cc := cX2_bounded) (maxL := 5) (ret := (some .int)) (by decide) rfl ?_
  intro p e s m args below meth c s₁ B hml hv
  obtain ⟨rfl, hsz, hP, hK, hD0, hZ⟩ := hv
  subst hsz
  have hlocks := B.notSynchronized
  have hl := lv_entry ([.ref h_t, .int (iZ x1), .int (iZ x2)]) (n := 5) (Nat.le_of_ble_eq_true rfl)
  rw [lg_entry_eq]
  generalize (lg_sl ([.ref h_t, .int (iZ x1), .int (iZ x2)]) ++ List.replicate (5 - (lg_sl ([.ref h_t, .int (iZ x1), .int (iZ x2)])).length) Slot.unset).toArray = ls at hl ⊢
  exact wX2_bounded_E p l e s m _ below meth c _ G D cA _ h_t h_t_settings h_t_dots h_t_cuts h_t_skips h_t_weights v_t_wide v_t_high v_t_frames f_t_settings x1 x2 N ⟨B.exec, B.bytes, hml, findClass_of_methodNamed B.named, atoms_spec (ws := vX2_bounded) B.pre⟩ hK (fun q h => Or.inr h) hZ r (fun pc H locs ls hd hP hD hS => W.iret B.exec B.bytes B.returns (fun t ht hW => ⟨⟨_, (), rfl, rfl, by rw [ht]; exact hP, va_K.moved hW.alike hK, hD⟩, hS.F ht⟩) hS.2.2 hd) hF s.heap [] hP (hD0.self (sz := s.heap.size)) va_S.rf ls hl

/-! ===== FlickerDesk$Tally.number(II)I ===== -/
abbrev rmX9_number : Room := { frames := 0, cells := 0, slots := 0, locals := 0 }
abbrev wX9_number (cA : Nat → ClassId) (h_t h_t_cums : Nat) (f_t_cums : Nat → Int) : va_W := [(h_t, .inr (9, [.ref h_t_cums])), (h_t_cums, zA (cA 0) 384 f_t_cums)]
def fX9_number (N : Nat) (f_t_cums : Nat → Int) (x1 : Int) (x2 : Int) : Option (Int) := (if iZ x2 = iZ 0 then (gd ((0 : Int) ≤ (x1 * 16) + x2 ∧ (x1 * 16) + x2 < 384) (some ((f_t_cums ((x1 * 16) + x2).toNat) - 0))) else (gd ((0 : Int) ≤ ((x1 * 16) + x2) - 1 ∧ ((x1 * 16) + x2) - 1 < 384) (gd ((0 : Int) ≤ (x1 * 16) + x2 ∧ (x1 * 16) + x2 < 384) (some ((f_t_cums ((x1 * 16) + x2).toNat) - (f_t_cums (((x1 * 16) + x2) - 1).toNat))))))
abbrev kX9_number (p : Program) (l : Launch) (e : Env) (s : State) (m : MethodId) (args : Array Value) (below : List Frame) (meth : Method) (c : Code) (Q : State → Prop) (G : ZG) (D : va_G) (cA : Nat → ClassId) (A : Nat → Prop) (h_t h_t_cums : Nat) (f_t_cums : Nat → Int) (x1 : Int) (x2 : Int) (N : Nat) (r : Int) : Prop := ∀ (pc : Nat) (H : Heap) (locs : List Loc) (ls : Array Slot), decode cX9_number pc = .ok (.ireturn, 1) → va_P D vwCl (wX9_number cA h_t h_t_cums f_t_cums) H → va_D A (wX9_number cA h_t h_t_cums f_t_cums) → va_S A s.heap H locs → W p l e rmX9_number s m args below meth c H locs 0 0 Q (F0 m pc ls [.int (iZ r)])
set_option maxHeartbeats 4000000 in
set_option maxRecDepth 100000 in
theorem wX9_number_E (p : Program) (l : Launch) (e : Env) (s : State) (m : MethodId) (args : Array Value) (below : List Frame) (meth : Method) (c : Code) (Q : State → Prop) (G : ZG) (D : va_G) (cA : Nat → ClassId) (A : Nat → Prop) (h_t h_t_cums : Nat) (f_t_cums : Nat → Int) (x1 : Int) (x2 : Int) (N : Nat) (C : CallFix p m c cX9_number 4 s args vX9_number RX9) (hK : va_K D vwCl (zT cA) s) (hA : ∀ q, s.heap.size ≤ q → A q) (hZ : zSt G A s s.heap) (r : Int) (kr : kX9_number p l e s m args below meth c Q G D cA A h_t h_t_cums f_t_cums x1 x2 N r) (h : fX9_number N f_t_cums x1 x2 = some r) (H : Heap) (locs : List Loc) (hP : va_P D vwCl (wX9_number cA h_t h_t_cums f_t_cums) H) (hD : va_D A (wX9_number cA h_t h_t_cums f_t_cums)) (hS : va_S A s.heap H locs) (ls : Array Slot) (hl : lv_has ls 4 [(0, .ref h_t), (1, .int (iZ x1)), (2, .int (iZ x2))]) : W p l e rmX9_number s m args below meth c H locs 0 0 Q (F0 m 0 ls []) := by
  obtain ⟨hx, hb, hml, hown, hts⟩ := id C
  have hq : ∀ w ∈ wAll, w.before args s = true := fun w h => hts w (List.mem_cons_of_mem _ h)
  unfold fX9_number at h
  refine lv_iload_n hx hb dX9_number_0 rfl (lv_at hl 2 rfl) ?_
  refine z_if_ne (tgt := 8) hx hb dX9_number_1 (by decide) (fun c1 => ?_) (fun c1 => ?_)
  · rw [if_neg c1] at h
    refine lv_aload_n hx hb dX9_number_8 rfl (lv_at hl 0 rfl) ?_
    refine va_get (D := D) (ci := 9) (v := .ref h_t_cums) (C := RX9) (T := TX9) (N := 1) hx hb hq in_wsX90 hown hK hP 0 rfl rfl 0 (by decide) (hq _ q51) (fun _ h9 => h9) rfl dX9_number_9 ?_
    refine lv_iload_n hx hb dX9_number_12 rfl (lv_at hl 1 rfl) ?_
    refine z_bipush hx hb dX9_number_13 (by decide) ?_
    refine z_imul hx hb dX9_number_15 ?_
    refine lv_iload_n hx hb dX9_number_16 rfl (lv_at hl 2 rfl) ?_
    refine z_iadd hx hb dX9_number_17 ?_
    refine z_iconst hx hb dX9_number_18 ?_
    refine z_isub hx hb dX9_number_19 ?_
    obtain ⟨g2, h⟩ := gd_some h
    refine z_iald hx hb hK hP 1 0 rfl rfl (Nat.le_of_ble_eq_true rfl) g2 dX9_number_20 ?_
    refine lv_istore_n (lv' := [(3, .int (iZ (f_t_cums (((x1 * 16) + x2) - 1).toNat))), (0, .ref h_t), (1, .int (iZ x1)), (2, .int (iZ x2))]) hx hb dX9_number_21 rfl hl (by decide) rfl (fun ls hl => ?_)
    refine lv_aload_n hx hb dX9_number_22 rfl (lv_at hl 1 rfl) ?_
    refine va_get (D := D) (ci := 9) (v := .ref h_t_cums) (C := RX9) (T := TX9) (N := 1) hx hb hq in_wsX90 hown hK hP 0 rfl rfl 0 (by decide) (hq _ q51) (fun _ h9 => h9) rfl dX9_number_23 ?_
    refine lv_iload_n hx hb dX9_number_26 rfl (lv_at hl 2 rfl) ?_
    refine z_bipush hx hb dX9_number_27 (by decide) ?_
    refine z_imul hx hb dX9_number_29 ?_
    refine lv_iload_n hx hb dX9_number_30 rfl (lv_at hl 3 rfl) ?_
    refine z_iadd hx hb dX9_number_31 ?_
    obtain ⟨g3, h⟩ := gd_some h
    refine z_iald hx hb hK hP 1 0 rfl rfl (Nat.le_of_ble_eq_true rfl) g3 dX9_number_32 ?_
    refine lv_iload_n hx hb dX9_number_33 rfl (lv_at hl 0 rfl) ?_
    refine z_isub hx hb dX9_number_34 ?_
    cases h
    exact kr _ _ _ _ dX9_number_35 hP hD hS
  · rw [if_pos c1] at h
    refine z_iconst hx hb dX9_number_4 ?_
    refine lv_goto (tgt := 21) hx hb dX9_number_5 (by decide) ?_
    refine lv_istore_n (lv' := [(3, .int (iZ 0)), (0, .ref h_t), (1, .int (iZ x1)), (2, .int (iZ x2))]) hx hb dX9_number_21 rfl hl (by decide) rfl (fun ls hl => ?_)
    refine lv_aload_n hx hb dX9_number_22 rfl (lv_at hl 1 rfl) ?_
    refine va_get (D := D) (ci := 9) (v := .ref h_t_cums) (C := RX9) (T := TX9) (N := 1) hx hb hq in_wsX90 hown hK hP 0 rfl rfl 0 (by decide) (hq _ q51) (fun _ h9 => h9) rfl dX9_number_23 ?_
    refine lv_iload_n hx hb dX9_number_26 rfl (lv_at hl 2 rfl) ?_
    refine z_bipush hx hb dX9_number_27 (by decide) ?_
    refine z_imul hx hb dX9_number_29 ?_
    refine lv_iload_n hx hb dX9_number_30 rfl (lv_at hl 3 rfl) ?_
    refine z_iadd hx hb dX9_number_31 ?_
    obtain ⟨g4, h⟩ := gd_some h
    refine z_iald hx hb hK hP 1 0 rfl rfl (Nat.le_of_ble_eq_true rfl) g4 dX9_number_32 ?_
    refine lv_iload_n hx hb dX9_number_33 rfl (lv_at hl 0 rfl) ?_
    refine z_isub hx hb dX9_number_34 ?_
    cases h
    exact kr _ _ _ _ dX9_number_35 hP hD hS
set_option maxHeartbeats 4000000 in
set_option maxRecDepth 100000 in
theorem cX9_number_m (l : Launch) (G : ZG) (D : va_G) (cA : Nat → ClassId) (h_t h_t_cums : Nat) (f_t_cums : Nat → Int) (x1 : Int) (x2 : Int) (sz N : Nat) {r : Int} (hF : fX9_number N f_t_cums x1 x2 = some r) : zMi l yX9_number vX9_number rmX9_number G D cA [.ref h_t, .int (iZ x1), .int (iZ x2)] (wX9_number cA h_t h_t_cums f_t_cums) (wX9_number cA h_t h_t_cums f_t_cums) r sz := by
  refine Met.ofW (cc := cX9_number) (maxL := 4) (ret := (some .int)) (by decide) rfl ?_
  intro p e s m args below meth c s₁ B hml hv
  obtain ⟨rfl, hsz, hP, hK, hD0, hZ⟩ := hv
  subst hsz
  have hlocks := B.notSynchronized
  have hl := lv_entry ([.ref h_t, .int (iZ x1), .int (iZ x2)]) (n := 4) (Nat.le_of_ble_eq_true rfl)
  rw [lg_entry_eq]
  generalize (lg_sl ([.ref h_t, .int (iZ x1), .int (iZ x2)]) ++ List.replicate (4 - (lg_sl ([.ref h_t, .int (iZ x1), .int (iZ x2)])).length) Slot.unset).toArray = ls at hl ⊢
  exact wX9_number_E p l e s m _ below meth c _ G D cA _ h_t h_t_cums f_t_cums x1 x2 N ⟨B.exec, B.bytes, hml, findClass_of_methodNamed B.named, atoms_spec (ws := vX9_number) B.pre⟩ hK (fun q h => Or.inr h) hZ r (fun pc H locs ls hd hP hD hS => W.iret B.exec B.bytes B.returns (fun t ht hW => ⟨⟨_, (), rfl, rfl, by rw [ht]; exact hP, va_K.moved hW.alike hK, hD⟩, hS.F ht⟩) hS.2.2 hd) hF s.heap [] hP (hD0.self (sz := s.heap.size)) va_S.rf ls hl

/-! ===== FlickerDesk$Tally.mean(I)I ===== -/
abbrev rmX9_mean : Room := { frames := 1, cells := 0, slots := 0, locals := 23 }
abbrev wX9_mean (cA : Nat → ClassId) (h_t h_t_cums : Nat) (f_t_cums : Nat → Int) : va_W := [(h_t, .inr (9, [.ref h_t_cums])), (h_t_cums, zA (cA 0) 384 f_t_cums)]
def fX9_mean_b4 (N : Nat) (f_t_cums : Nat → Int) (x1 : Int) (rec : Int → Int → Option (Int)) (k : Int → Option (Int)) (i2 : Int) (i3 : Int) : Option (Int) := (if iZ i3 < iZ 16 then ((fX9_number N f_t_cums x1 i3).bind fun r2 => (rec (i2 + (i3 * r2)) (i3 + 1))) else (k i2))
def fX9_mean_L4 (N : Nat) (f_t_cums : Nat → Int) (x1 : Int) (k : Int → Option (Int)) : Nat → Int → Int → Option (Int)
  | 0 => fun _ _ => none
  | n + 1 => fX9_mean_b4 N f_t_cums x1 (fX9_mean_L4 N f_t_cums x1 k n) k
def fX9_mean_j27 (N : Nat) (f_t_cums : Nat → Int) (x1 : Int) (i2 : Int) : Option (Int) := (some i2)
def fX9_mean (N : Nat) (f_t_cums : Nat → Int) (x1 : Int) : Option (Int) := (fX9_mean_L4 N f_t_cums x1 (fX9_mean_j27 N f_t_cums x1) N 0 1)
abbrev kX9_mean (p : Program) (l : Launch) (e : Env) (s : State) (m : MethodId) (args : Array Value) (below : List Frame) (meth : Method) (c : Code) (Q : State → Prop) (G : ZG) (D : va_G) (cA : Nat → ClassId) (A : Nat → Prop) (h_t h_t_cums : Nat) (f_t_cums : Nat → Int) (x1 : Int) (N : Nat) (r : Int) : Prop := ∀ (pc : Nat) (H : Heap) (locs : List Loc) (ls : Array Slot), decode cX9_mean pc = .ok (.ireturn, 1) → va_P D vwCl (wX9_mean cA h_t h_t_cums f_t_cums) H → va_D A (wX9_mean cA h_t h_t_cums f_t_cums) → va_S A s.heap H locs → W p l e rmX9_mean s m args below meth c H locs 0 0 Q (F0 m pc ls [.int (iZ r)])
abbrev sX9_mean_27 (p : Program) (l : Launch) (e : Env) (s : State) (m : MethodId) (args : Array Value) (below : List Frame) (meth : Method) (c : Code) (Q : State → Prop) (G : ZG) (D : va_G) (cA : Nat → ClassId) (A : Nat → Prop) (h_t h_t_cums : Nat) (f_t_cums : Nat → Int) (x1 : Int) (N : Nat) (i2 : Int) : Prop := ∀ (H : Heap) (locs : List Loc), va_P D vwCl (wX9_mean cA h_t h_t_cums f_t_cums) H → va_D A (wX9_mean cA h_t h_t_cums f_t_cums) → va_S A s.heap H locs → ∀ ls : Array Slot, lv_has ls 4 [(2, .int (iZ i2))] → W p l e rmX9_mean s m args below meth c H locs 0 0 Q (F0 m 27 ls [])
abbrev sX9_mean_4 (p : Program) (l : Launch) (e : Env) (s : State) (m : MethodId) (args : Array Value) (below : List Frame) (meth : Method) (c : Code) (Q : State → Prop) (G : ZG) (D : va_G) (cA : Nat → ClassId) (A : Nat → Prop) (h_t h_t_cums : Nat) (f_t_cums : Nat → Int) (x1 : Int) (N : Nat) (i2 : Int) (i3 : Int) : Prop := ∀ (H : Heap) (locs : List Loc), va_P D vwCl (wX9_mean cA h_t h_t_cums f_t_cums) H → va_D A (wX9_mean cA h_t h_t_cums f_t_cums) → va_S A s.heap H locs → ∀ ls : Array Slot, lv_has ls 4 [(0, .ref h_t), (1, .int (iZ x1)), (2, .int (iZ i2)), (3, .int (iZ i3))] → W p l e rmX9_mean s m args below meth c H locs 0 0 Q (F0 m 4 ls [])
set_option maxHeartbeats 4000000 in
set_option maxRecDepth 100000 in
theorem wX9_mean_b4 (p : Program) (l : Launch) (e : Env) (s : State) (m : MethodId) (args : Array Value) (below : List Frame) (meth : Method) (c : Code) (Q : State → Prop) (G : ZG) (D : va_G) (cA : Nat → ClassId) (A : Nat → Prop) (h_t h_t_cums : Nat) (f_t_cums : Nat → Int) (x1 : Int) (N : Nat) (C : CallFix p m c cX9_mean 4 s args vX9_mean RX9) (hK : va_K D vwCl (zT cA) s) (hA : ∀ q, s.heap.size ≤ q → A q) (hZ : zSt G A s s.heap) (r : Int) (kr : kX9_mean p l e s m args below meth c Q G D cA A h_t h_t_cums f_t_cums x1 N r) (rec : Int → Int → Option (Int)) (k : Int → Option (Int)) (hrec : ∀ (i2 : Int) (i3 : Int), rec i2 i3 = some r → sX9_mean_4 p l e s m args below meth c Q G D cA A h_t h_t_cums f_t_cums x1 N i2 i3) (hk : ∀ (i2 : Int), k i2 = some r → sX9_mean_27 p l e s m args below meth c Q G D cA A h_t h_t_cums f_t_cums x1 N i2) (i2 : Int) (i3 : Int) (h : fX9_mean_b4 N f_t_cums x1 rec k i2 i3 = some r) : sX9_mean_4 p l e s m args below meth c Q G D cA A h_t h_t_cums f_t_cums x1 N i2 i3 := by
  obtain ⟨hx, hb, hml, hown, hts⟩ := id C
  have hq : ∀ w ∈ wAll, w.before args s = true := fun w h => hts w (List.mem_cons_of_mem _ h)
  intro H locs hP hD hS ls hl
  unfold fX9_mean_b4 at h
  refine lv_iload_n hx hb dX9_mean_4 rfl (lv_at hl 3 rfl) ?_
  refine z_bipush hx hb dX9_mean_5 (by decide) ?_
  refine z_icmp_ge (tgt := 27) hx hb dX9_mean_7 (by decide) (fun c1 => ?_) (fun c1 => ?_)
  · rw [if_neg c1] at h
    exact hk i2 h H locs hP hD hS ls (lv_sub hl [2] rfl)
  · rw [if_pos c1] at h
    refine lv_iload_n hx hb dX9_mean_10 rfl (lv_at hl 2 rfl) ?_
    refine lv_iload_n hx hb dX9_mean_11 rfl (lv_at hl 3 rfl) ?_
    refine lv_aload_n hx hb dX9_mean_12 rfl (lv_at hl 0 rfl) ?_
    refine lv_iload_n hx hb dX9_mean_13 rfl (lv_at hl 1 rfl) ?_
    refine lv_iload_n hx hb dX9_mean_14 rfl (lv_at hl 3 rfl) ?_
    obtain ⟨r2, e2, h⟩ := bd_some h
    refine z_callVi (G := G) (D := D) (cA := cA) (wc := (wX9_number cA h_t h_t_cums f_t_cums)) (wr := []) (w1 := (wX9_number cA h_t h_t_cums f_t_cums)) (ws' := (wX9_mean cA h_t h_t_cums f_t_cums)) (r := r2) (As := [.int (iZ x1), .int (iZ i3)]) C hK hA hZ hP hD hS [0, 1] [] [0, 1] rfl rfl rfl (by decide) (cX9_number_m l G D cA h_t h_t_cums f_t_cums x1 i3 H.size N e2) (cwV 2 hts (gAllV q240 q241 q242 q66 q238) rfl rfl rfl (by decide +kernel) ⟨Nat.le_of_ble_eq_true rfl, Nat.le_of_ble_eq_true rfl⟩) 0 9 rfl rfl rfl rfl hl.1 rfl (Nat.le_of_ble_eq_true rfl) ⟨Nat.zero_le _, Nat.zero_le _⟩ dX9_mean_15 (fun H locs hP hD hS => ?_)
    refine z_imul hx hb dX9_mean_18 ?_
    refine z_iadd hx hb dX9_mean_19 ?_
    refine lv_istore_n (lv' := [(2, .int (iZ (i2 + (i3 * r2)))), (0, .ref h_t), (1, .int (iZ x1)), (3, .int (iZ i3))]) hx hb dX9_mean_20 rfl hl (by decide) rfl (fun ls hl => ?_)
    refine z_iinc (lv' := [(3, .int (iZ (i3 + 1))), (2, .int (iZ (i2 + (i3 * r2)))), (0, .ref h_t), (1, .int (iZ x1))]) hx hb dX9_mean_21 hl (k := 3) rfl (by decide) rfl (fun ls hl => ?_)
    refine lv_goto (tgt := 4) hx hb dX9_mean_24 (by decide) ?_
    exact hrec (i2 + (i3 * r2)) (i3 + 1) h H locs hP hD hS ls (lv_sub hl [2, 3, 1, 0] rfl)
theorem wX9_mean_L4 (p : Program) (l : Launch) (e : Env) (s : State) (m : MethodId) (args : Array Value) (below : List Frame) (meth : Method) (c : Code) (Q : State → Prop) (G : ZG) (D : va_G) (cA : Nat → ClassId) (A : Nat → Prop) (h_t h_t_cums : Nat) (f_t_cums : Nat → Int) (x1 : Int) (N : Nat) (C : CallFix p m c cX9_mean 4 s args vX9_mean RX9) (hK : va_K D vwCl (zT cA) s) (hA : ∀ q, s.heap.size ≤ q → A q) (hZ : zSt G A s s.heap) (r : Int) (kr : kX9_mean p l e s m args below meth c Q G D cA A h_t h_t_cums f_t_cums x1 N r) (k : Int → Option (Int)) (hk : ∀ (i2 : Int), k i2 = some r → sX9_mean_27 p l e s m args below meth c Q G D cA A h_t h_t_cums f_t_cums x1 N i2) : ∀ (n : Nat) (i2 : Int) (i3 : Int), fX9_mean_L4 N f_t_cums x1 k n i2 i3 = some r → sX9_mean_4 p l e s m args below meth c Q G D cA A h_t h_t_cums f_t_cums x1 N i2 i3 := by
  intro n
  induction n with
  | zero =>
    intro i2 i3 h
    have h : none = some r := h
    cases h
  | succ n ih =>
    intro i2 i3 h
    exact wX9_mean_b4 p l e s m args below meth c Q G D cA A h_t h_t_cums f_t_cums x1 N C hK hA hZ r kr (fX9_mean_L4 N f_t_cums x1 k n) k ih hk i2 i3 h
set_option maxHeartbeats 4000000 in
set_option maxRecDepth 100000 in
theorem wX9_mean_j27 (p : Program) (l : Launch) (e : Env) (s : State) (m : MethodId) (args : Array Value) (below : List Frame) (meth : Method) (c : Code) (Q : State → Prop) (G : ZG) (D : va_G) (cA : Nat → ClassId) (A : Nat → Prop) (h_t h_t_cums : Nat) (f_t_cums : Nat → Int) (x1 : Int) (N : Nat) (C : CallFix p m c cX9_mean 4 s args vX9_mean RX9) (hK : va_K D vwCl (zT cA) s) (hA : ∀ q, s.heap.size ≤ q → A q) (hZ : zSt G A s s.heap) (r : Int) (kr : kX9_mean p l e s m args below meth c Q G D cA A h_t h_t_cums f_t_cums x1 N r) (i2 : Int) (h : fX9_mean_j27 N f_t_cums x1 i2 = some r) : sX9_mean_27 p l e s m args below meth c Q G D cA A h_t h_t_cums f_t_cums x1 N i2 := by
  obtain ⟨hx, hb, hml, hown, hts⟩ := id C
  have hq : ∀ w ∈ wAll, w.before args s = true := fun w h => hts w (List.mem_cons_of_mem _ h)
  intro H locs hP hD hS ls hl
  unfold fX9_mean_j27 at h
  refine lv_iload_n hx hb dX9_mean_27 rfl (lv_at hl 0 rfl) ?_
  cases h
  exact kr _ _ _ _ dX9_mean_28 hP hD hS
set_option maxHeartbeats 4000000 in
set_option maxRecDepth 100000 in
theorem wX9_mean_E (p : Program) (l : Launch) (e : Env) (s : State) (m : MethodId) (args : Array Value) (below : List Frame) (meth : Method) (c : Code) (Q : State → Prop) (G : ZG) (D : va_G) (cA : Nat → ClassId) (A : Nat → Prop) (h_t h_t_cums : Nat) (f_t_cums : Nat → Int) (x1 : Int) (N : Nat) (C : CallFix p m c cX9_mean 4 s args vX9_mean RX9) (hK : va_K D vwCl (zT cA) s) (hA : ∀ q, s.heap.size ≤ q → A q) (hZ : zSt G A s s.heap) (r : Int) (kr : kX9_mean p l e s m args below meth c Q G D cA A h_t h_t_cums f_t_cums x1 N r) (h : fX9_mean N f_t_cums x1 = some r) (H : Heap) (locs : List Loc) (hP : va_P D vwCl (wX9_mean cA h_t h_t_cums f_t_cums) H) (hD : va_D A (wX9_mean cA h_t h_t_cums f_t_cums)) (hS : va_S A s.heap H locs) (ls : Array Slot) (hl : lv_has ls 4 [(0, .ref h_t), (1, .int (iZ x1))]) : W p l e rmX9_mean s m args below meth c H locs 0 0 Q (F0 m 0 ls []) := by
  obtain ⟨hx, hb, hml, hown, hts⟩ := id C
  have hq : ∀ w ∈ wAll, w.before args s = true := fun w h => hts w (List.mem_cons_of_mem _ h)
  unfold fX9_mean at h
  refine z_iconst hx hb dX9_mean_0 ?_
  refine lv_istore_n (lv' := [(2, .int (iZ 0)), (0, .ref h_t), (1, .int (iZ x1))]) hx hb dX9_mean_1 rfl hl (by decide) rfl (fun ls hl => ?_)
  refine z_iconst hx hb dX9_mean_2 ?_
  refine lv_istore_n (lv' := [(3, .int (iZ 1)), (2, .int (iZ 0)), (0, .ref h_t), (1, .int (iZ x1))]) hx hb dX9_mean_3 rfl hl (by decide) rfl (fun ls hl => ?_)
  exact wX9_mean_L4 p l e s m args below meth c Q G D cA A h_t h_t_cums f_t_cums x1 N C hK hA hZ r kr (fX9_mean_j27 N f_t_cums x1) (fun y0 h9 => wX9_mean_j27 p l e s m args below meth c Q G D cA A h_t h_t_cums f_t_cums x1 N C hK hA hZ r kr y0 h9) N 0 1 h H locs hP hD hS ls (lv_sub hl [2, 3, 1, 0] rfl)
set_option maxHeartbeats 4000000 in
set_option maxRecDepth 100000 in
theorem cX9_mean_m (l : Launch) (G : ZG) (D : va_G) (cA : Nat → ClassId) (h_t h_t_cums : Nat) (f_t_cums : Nat → Int) (x1 : Int) (sz N : Nat) {r : Int} (hF : fX9_mean N f_t_cums x1 = some r) : zMi l yX9_mean vX9_mean rmX9_mean G D cA [.ref h_t, .int (iZ x1)] (wX9_mean cA h_t h_t_cums f_t_cums) (wX9_mean cA h_t h_t_cums f_t_cums) r sz := by
  refine Met.ofW (cc := cX9_mean) (maxL := 4) (ret := (some .int)) (by decide) rfl ?_
  intro p e s m args below meth c s₁ B hml hv
  obtain ⟨rfl, hsz, hP, hK, hD0, hZ⟩ := hv
  subst hsz
  have hlocks := B.notSynchronized
  have hl := lv_entry ([.ref h_t, .int (iZ x1)]) (n := 4) (Nat.le_of_ble_eq_true rfl)
  rw [lg_entry_eq]
  generalize (lg_sl ([.ref h_t, .int (iZ x1)]) ++ List.replicate (4 - (lg_sl ([.ref h_t, .int (iZ x1)])).length) Slot.unset).toArray = ls at hl ⊢
  exact wX9_mean_E p l e s m _ below meth c _ G D cA _ h_t h_t_cums f_t_cums x1 N ⟨B.exec, B.bytes, hml, findClass_of_methodNamed B.named, atoms_spec (ws := vX9_mean) B.pre⟩ hK (fun q h => Or.inr h) hZ r (fun pc H locs ls hd hP hD hS => W.iret B.exec B.bytes B.returns (fun t ht hW => ⟨⟨_, (), rfl, rfl, by rw [ht]; exact hP, va_K.moved hW.alike hK, hD⟩, hS.F ht⟩) hS.2.2 hd) hF s.heap [] hP (hD0.self (sz := s.heap.size)) va_S.rf ls hl

/-! ===== FlickerDesk$Film.hasFrame(I)Z ===== -/
abbrev rmX2_hasFrame : Room := { frames := 0, cells := 0, slots := 0, locals := 0 }
abbrev wX2_hasFrame (cA : Nat → ClassId) (h_t h_t_dots h_t_cuts h_t_skips h_t_settings h_t_weights : Nat) (v_t_wide : Int) (v_t_high : Int) (v_t_frames : Int) : va_W := [(h_t, .inr (2, [.ref h_t_dots, .ref h_t_cuts, .ref h_t_skips, .ref h_t_settings, .ref h_t_weights, .int (iZ v_t_wide), .int (iZ v_t_high), .int (iZ v_t_frames)]))]
def fX2_hasFrame (N : Nat) (v_t_frames : Int) (x1 : Int) : Option (Int) := (if iZ x1 < iZ 0 then (some 0) else (if iZ x1 < iZ v_t_frames then (some 1) else (some 0)))
abbrev kX2_hasFrame (p : Program) (l : Launch) (e : Env) (s : State) (m : MethodId) (args : Array Value) (below : List Frame) (meth : Method) (c : Code) (Q : State → Prop) (G : ZG) (D : va_G) (cA : Nat → ClassId) (A : Nat → Prop) (h_t h_t_dots h_t_cuts h_t_skips h_t_settings h_t_weights : Nat) (v_t_wide : Int) (v_t_high : Int) (v_t_frames : Int) (x1 : Int) (N : Nat) (r : Int) : Prop := ∀ (pc : Nat) (H : Heap) (locs : List Loc) (ls : Array Slot), decode cX2_hasFrame pc = .ok (.ireturn, 1) → narrow .boolean (.int (iZ r)) = .int (iZ r) → va_P D vwCl (wX2_hasFrame cA h_t h_t_dots h_t_cuts h_t_skips h_t_settings h_t_weights v_t_wide v_t_high v_t_frames) H → va_D A (wX2_hasFrame cA h_t h_t_dots h_t_cuts h_t_skips h_t_settings h_t_weights v_t_wide v_t_high v_t_frames) → va_S A s.heap H locs → W p l e rmX2_hasFrame s m args below meth c H locs 0 0 Q (F0 m pc ls [.int (iZ r)])
set_option maxHeartbeats 4000000 in
set_option maxRecDepth 100000 in
theorem wX2_hasFrame_E (p : Program) (l : Launch) (e : Env) (s : State) (m : MethodId) (args : Array Value) (below : List Frame) (meth : Method) (c : Code) (Q : State → Prop) (G : ZG) (D : va_G) (cA : Nat → ClassId) (A : Nat → Prop) (h_t h_t_dots h_t_cuts h_t_skips h_t_settings h_t_weights : Nat) (v_t_wide : Int) (v_t_high : Int) (v_t_frames : Int) (x1 : Int) (N : Nat) (C : CallFix p m c cX2_hasFrame 2 s args vX2_hasFrame RX2) (hK : va_K D vwCl (zT cA) s) (hA : ∀ q, s.heap.size ≤ q → A q) (hZ : zSt G A s s.heap) (r : Int) (kr : kX2_hasFrame p l e s m args below meth c Q G D cA A h_t h_t_dots h_t_cuts h_t_skips h_t_settings h_t_weights v_t_wide v_t_high v_t_frames x1 N r) (h : fX2_hasFrame N v_t_frames x1 = some r) (H : Heap) (locs : List Loc) (hP : va_P D vwCl (wX2_hasFrame cA h_t h_t_dots h_t_cuts h_t_skips h_t_settings h_t_weights v_t_wide v_t_high v_t_frames) H) (hD : va_D A (wX2_hasFrame cA h_t h_t_dots h_t_cuts h_t_skips h_t_settings h_t_weights v_t_wide v_t_high v_t_frames)) (hS : va_S A s.heap H locs) (ls : Array Slot) (hl : lv_has ls 2 [(0, .ref h_t), (1, .int (iZ x1))]) : W p l e rmX2_hasFrame s m args below meth c H locs 0 0 Q (F0 m 0 ls []) := by
  obtain ⟨hx, hb, hml, hown, hts⟩ := id C
  have hq : ∀ w ∈ wAll, w.before args s = true := fun w h => hts w (List.mem_cons_of_mem _ h)
  unfold fX2_hasFrame at h
  refine lv_iload_n hx hb dX2_hasFrame_0 rfl (lv_at hl 1 rfl) ?_
  refine z_if_lt (tgt := 16) hx hb dX2_hasFrame_1 (by decide) (fun c1 => ?_) (fun c1 => ?_)
  · rw [if_pos c1] at h
    refine z_iconst hx hb dX2_hasFrame_16 ?_
    cases h
    exact kr _ _ _ _ dX2_hasFrame_17 (zb_nar (Or.inl rfl)) hP hD hS
  · rw [if_neg c1] at h
    refine lv_iload_n hx hb dX2_hasFrame_4 rfl (lv_at hl 1 rfl) ?_
    refine lv_aload_n hx hb dX2_hasFrame_5 rfl (lv_at hl 0 rfl) ?_
    refine va_get (D := D) (ci := 2) (v := .int (iZ v_t_frames)) (C := RX2) (T := TX2) (N := 8) hx hb hq in_wsX20 hown hK hP 0 rfl rfl 7 (by decide) (hq _ q4) (fun _ h9 => h9) rfl dX2_hasFrame_6 ?_
    refine z_icmp_ge (tgt := 16) hx hb dX2_hasFrame_9 (by decide) (fun c2 => ?_) (fun c2 => ?_)
    · rw [if_neg c2] at h
      refine z_iconst hx hb dX2_hasFrame_16 ?_
      cases h
      exact kr _ _ _ _ dX2_hasFrame_17 (zb_nar (Or.inl rfl)) hP hD hS
    · rw [if_pos c2] at h
      refine z_iconst hx hb dX2_hasFrame_12 ?_
      refine lv_goto (tgt := 17) hx hb dX2_hasFrame_13 (by decide) ?_
      cases h
      exact kr _ _ _ _ dX2_hasFrame_17 (zb_nar (Or.inr rfl)) hP hD hS
set_option maxHeartbeats 4000000 in
set_option maxRecDepth 100000 in
theorem cX2_hasFrame_m (l : Launch) (G : ZG) (D : va_G) (cA : Nat → ClassId) (h_t h_t_dots h_t_cuts h_t_skips h_t_settings h_t_weights : Nat) (v_t_wide : Int) (v_t_high : Int) (v_t_frames : Int) (x1 : Int) (sz N : Nat) {r : Int} (hF : fX2_hasFrame N v_t_frames x1 = some r) : zMi l yX2_hasFrame vX2_hasFrame rmX2_hasFrame G D cA [.ref h_t, .int (iZ x1)] (wX2_hasFrame cA h_t h_t_dots h_t_cuts h_t_skips h_t_settings h_t_weights v_t_wide v_t_high v_t_frames) (wX2_hasFrame cA h_t h_t_dots h_t_cuts h_t_skips h_t_settings h_t_weights v_t_wide v_t_high v_t_frames) r sz := by
  refine Met.ofW (cc := cX2_hasFrame) (maxL := 2) (ret := (some .boolean)) (by decide) rfl ?_
  intro p e s m args below meth c s₁ B hml hv
  obtain ⟨rfl, hsz, hP, hK, hD0, hZ⟩ := hv
  subst hsz
  have hlocks := B.notSynchronized
  have hl := lv_entry ([.ref h_t, .int (iZ x1)]) (n := 2) (Nat.le_of_ble_eq_true rfl)
  rw [lg_entry_eq]
  generalize (lg_sl ([.ref h_t, .int (iZ x1)]) ++ List.replicate (2 - (lg_sl ([.ref h_t, .int (iZ x1)])).length) Slot.unset).toArray = ls at hl ⊢
  exact wX2_hasFrame_E p l e s m _ below meth c _ G D cA _ h_t h_t_dots h_t_cuts h_t_skips h_t_settings h_t_weights v_t_wide v_t_high v_t_frames x1 N ⟨B.exec, B.bytes, hml, findClass_of_methodNamed B.named, atoms_spec (ws := vX2_hasFrame) B.pre⟩ hK (fun q h => Or.inr h) hZ r (fun pc H locs ls hd hnar hP hD hS => W.zret B.exec B.bytes B.returns hnar (fun t ht hW => ⟨⟨_, (), rfl, rfl, by rw [ht]; exact hP, va_K.moved hW.alike hK, hD⟩, hS.F ht⟩) hS.2.2 hd) hF s.heap [] hP (hD0.self (sz := s.heap.size)) va_S.rf ls hl

/-! ===== FlickerDesk$Film.hasPlace(I)Z ===== -/
abbrev rmX2_hasPlace : Room := { frames := 1, cells := 0, slots := 0, locals := 20 }
abbrev wX2_hasPlace (cA : Nat → ClassId) (h_t h_t_dots h_t_cuts h_t_skips h_t_settings h_t_weights : Nat) (v_t_wide : Int) (v_t_high : Int) (v_t_frames : Int) : va_W := [(h_t, .inr (2, [.ref h_t_dots, .ref h_t_cuts, .ref h_t_skips, .ref h_t_settings, .ref h_t_weights, .int (iZ v_t_wide), .int (iZ v_t_high), .int (iZ v_t_frames)]))]
def fX2_hasPlace (N : Nat) (v_t_wide : Int) (v_t_high : Int) (x1 : Int) : Option (Int) := (if iZ x1 < iZ 0 then (some 0) else ((fX2_size N v_t_wide v_t_high).bind fun r2 => (if iZ x1 < iZ r2 then (some 1) else (some 0))))
abbrev kX2_hasPlace (p : Program) (l : Launch) (e : Env) (s : State) (m : MethodId) (args : Array Value) (below : List Frame) (meth : Method) (c : Code) (Q : State → Prop) (G : ZG) (D : va_G) (cA : Nat → ClassId) (A : Nat → Prop) (h_t h_t_dots h_t_cuts h_t_skips h_t_settings h_t_weights : Nat) (v_t_wide : Int) (v_t_high : Int) (v_t_frames : Int) (x1 : Int) (N : Nat) (r : Int) : Prop := ∀ (pc : Nat) (H : Heap) (locs : List Loc) (ls : Array Slot), decode cX2_hasPlace pc = .ok (.ireturn, 1) → narrow .boolean (.int (iZ r)) = .int (iZ r) → va_P D vwCl (wX2_hasPlace cA h_t h_t_dots h_t_cuts h_t_skips h_t_settings h_t_weights v_t_wide v_t_high v_t_frames) H → va_D A (wX2_hasPlace cA h_t h_t_dots h_t_cuts h_t_skips h_t_settings h_t_weights v_t_wide v_t_high v_t_frames) → va_S A s.heap H locs → W p l e rmX2_hasPlace s m args below meth c H locs 0 0 Q (F0 m pc ls [.int (iZ r)])
set_option maxHeartbeats 4000000 in
set_option maxRecDepth 100000 in
theorem wX2_hasPlace_E (p : Program) (l : Launch) (e : Env) (s : State) (m : MethodId) (args : Array Value) (below : List Frame) (meth : Method) (c : Code) (Q : State → Prop) (G : ZG) (D : va_G) (cA : Nat → ClassId) (A : Nat → Prop) (h_t h_t_dots h_t_cuts h_t_skips h_t_settings h_t_weights : Nat) (v_t_wide : Int) (v_t_high : Int) (v_t_frames : Int) (x1 : Int) (N : Nat) (C : CallFix p m c cX2_hasPlace 2 s args vX2_hasPlace RX2) (hK : va_K D vwCl (zT cA) s) (hA : ∀ q, s.heap.size ≤ q → A q) (hZ : zSt G A s s.heap) (r : Int) (kr : kX2_hasPlace p l e s m args below meth c Q G D cA A h_t h_t_dots h_t_cuts h_t_skips h_t_settings h_t_weights v_t_wide v_t_high v_t_frames x1 N r) (h : fX2_hasPlace N v_t_wide v_t_high x1 = some r) (H : Heap) (locs : List Loc) (hP : va_P D vwCl (wX2_hasPlace cA h_t h_t_dots h_t_cuts h_t_skips h_t_settings h_t_weights v_t_wide v_t_high v_t_frames) H) (hD : va_D A (wX2_hasPlace cA h_t h_t_dots h_t_cuts h_t_skips h_t_settings h_t_weights v_t_wide v_t_high v_t_frames)) (hS : va_S A s.heap H locs) (ls : Array Slot) (hl : lv_has ls 2 [(0, .ref h_t), (1, .int (iZ x1))]) : W p l e rmX2_hasPlace s m args below meth c H locs 0 0 Q (F0 m 0 ls []) := by
  obtain ⟨hx, hb, hml, hown, hts⟩ := id C
  have hq : ∀ w ∈ wAll, w.before args s = true := fun w h => hts w (List.mem_cons_of_mem _ h)
  unfold fX2_hasPlace at h
  refine lv_iload_n hx hb dX2_hasPlace_0 rfl (lv_at hl 1 rfl) ?_
  refine z_if_lt (tgt := 16) hx hb dX2_hasPlace_1 (by decide) (fun c1 => ?_) (fun c1 => ?_)
  · rw [if_pos c1] at h
    refine z_iconst hx hb dX2_hasPlace_16 ?_
    cases h
    exact kr _ _ _ _ dX2_hasPlace_17 (zb_nar (Or.inl rfl)) hP hD hS
  · rw [if_neg c1] at h
    refine lv_iload_n hx hb dX2_hasPlace_4 rfl (lv_at hl 1 rfl) ?_
    refine lv_aload_n hx hb dX2_hasPlace_5 rfl (lv_at hl 0 rfl) ?_
    obtain ⟨r2, e2, h⟩ := bd_some h
    refine z_callVi (G := G) (D := D) (cA := cA) (wc := (wX2_size cA h_t h_t_dots h_t_cuts h_t_skips h_t_settings h_t_weights v_t_wide v_t_high v_t_frames)) (wr := []) (w1 := (wX2_size cA h_t h_t_dots h_t_cuts h_t_skips h_t_settings h_t_weights v_t_wide v_t_high v_t_frames)) (ws' := (wX2_hasPlace cA h_t h_t_dots h_t_cuts h_t_skips h_t_settings h_t_weights v_t_wide v_t_high v_t_frames)) (r := r2) (As := []) C hK hA hZ hP hD hS [0] [] [0] rfl rfl rfl (by decide) (cX2_size_m l G D cA h_t h_t_dots h_t_cuts h_t_skips h_t_settings h_t_weights v_t_wide v_t_high v_t_frames H.size N e2) (cwV 0 hts (gAllV q251 q106 q107 q24 q88) rfl rfl rfl (by decide +kernel) ⟨Nat.le_of_ble_eq_true rfl, Nat.le_of_ble_eq_true rfl⟩) 0 2 rfl rfl rfl rfl hl.1 rfl (Nat.le_of_ble_eq_true rfl) ⟨Nat.zero_le _, Nat.zero_le _⟩ dX2_hasPlace_6 (fun H locs hP hD hS => ?_)
    refine z_icmp_ge (tgt := 16) hx hb dX2_hasPlace_9 (by decide) (fun c3 => ?_) (fun c3 => ?_)
    · rw [if_neg c3] at h
      refine z_iconst hx hb dX2_hasPlace_16 ?_
      cases h
      exact kr _ _ _ _ dX2_hasPlace_17 (zb_nar (Or.inl rfl)) hP hD hS
    · rw [if_pos c3] at h
      refine z_iconst hx hb dX2_hasPlace_12 ?_
      refine lv_goto (tgt := 17) hx hb dX2_hasPlace_13 (by decide) ?_
      cases h
      exact kr _ _ _ _ dX2_hasPlace_17 (zb_nar (Or.inr rfl)) hP hD hS
set_option maxHeartbeats 4000000 in
set_option maxRecDepth 100000 in
theorem cX2_hasPlace_m (l : Launch) (G : ZG) (D : va_G) (cA : Nat → ClassId) (h_t h_t_dots h_t_cuts h_t_skips h_t_settings h_t_weights : Nat) (v_t_wide : Int) (v_t_high : Int) (v_t_frames : Int) (x1 : Int) (sz N : Nat) {r : Int} (hF : fX2_hasPlace N v_t_wide v_t_high x1 = some r) : zMi l yX2_hasPlace vX2_hasPlace rmX2_hasPlace G D cA [.ref h_t, .int (iZ x1)] (wX2_hasPlace cA h_t h_t_dots h_t_cuts h_t_skips h_t_settings h_t_weights v_t_wide v_t_high v_t_frames) (wX2_hasPlace cA h_t h_t_dots h_t_cuts h_t_skips h_t_settings h_t_weights v_t_wide v_t_high v_t_frames) r sz := by
  refine Met.ofW (cc := cX2_hasPlace) (maxL := 2) (ret := (some .boolean)) (by decide) rfl ?_
  intro p e s m args below meth c s₁ B hml hv
  obtain ⟨rfl, hsz, hP, hK, hD0, hZ⟩ := hv
  subst hsz
  have hlocks := B.notSynchronized
  have hl := lv_entry ([.ref h_t, .int (iZ x1)]) (n := 2) (Nat.le_of_ble_eq_true rfl)
  rw [lg_entry_eq]
  generalize (lg_sl ([.ref h_t, .int (iZ x1)]) ++ List.replicate (2 - (lg_sl ([.ref h_t, .int (iZ x1)])).length) Slot.unset).toArray = ls at hl ⊢
  exact wX2_hasPlace_E p l e s m _ below meth c _ G D cA _ h_t h_t_dots h_t_cuts h_t_skips h_t_settings h_t_weights v_t_wide v_t_high v_t_frames x1 N ⟨B.exec, B.bytes, hml, findClass_of_methodNamed B.named, atoms_spec (ws := vX2_hasPlace) B.pre⟩ hK (fun q h => Or.inr h) hZ r (fun pc H locs ls hd hnar hP hD hS => W.zret B.exec B.bytes B.returns hnar (fun t ht hW => ⟨⟨_, (), rfl, rfl, by rw [ht]; exact hP, va_K.moved hW.alike hK, hD⟩, hS.F ht⟩) hS.2.2 hd) hF s.heap [] hP (hD0.self (sz := s.heap.size)) va_S.rf ls hl

/-! ===== FlickerDesk$Film.allows(II)Z ===== -/
abbrev rmX2_allows : Room := { frames := 0, cells := 0, slots := 0, locals := 0 }
abbrev wX2_allows (cA : Nat → ClassId) (h_t h_t_settings h_t_dots h_t_cuts h_t_skips h_t_weights : Nat) (v_t_wide : Int) (v_t_high : Int) (v_t_frames : Int) (f_t_settings : Nat → Int) : va_W := [(h_t, .inr (2, [.ref h_t_dots, .ref h_t_cuts, .ref h_t_skips, .ref h_t_settings, .ref h_t_weights, .int (iZ v_t_wide), .int (iZ v_t_high), .int (iZ v_t_frames)])), (h_t_settings, zA (cA 0) 6 f_t_settings)]
def fX2_allows (N : Nat) (f_t_settings : Nat → Int) (x1 : Int) (x2 : Int) : Option (Int) := (if iZ x2 < iZ 0 then (some 0) else (gd ((0 : Int) ≤ x1 ∧ x1 < 6) (if iZ (hsZ x1.toNat) < iZ x2 then (some 0) else (if iZ x1 = iZ 1 then (gd ((0 : Int) ≤ (2 : Int) ∧ (2 : Int) < 6) (if iZ (f_t_settings (2 : Int).toNat) < iZ x2 then (some 0) else (some 1))) else (if iZ x1 = iZ 2 then (gd ((0 : Int) ≤ (1 : Int) ∧ (1 : Int) < 6) (if iZ x2 < iZ (f_t_settings (1 : Int).toNat) then (some 0) else (some 1))) else (some 1))))))
abbrev kX2_allows (p : Program) (l : Launch) (e : Env) (s : State) (m : MethodId) (args : Array Value) (below : List Frame) (meth : Method) (c : Code) (Q : State → Prop) (G : ZG) (D : va_G) (cA : Nat → ClassId) (A : Nat → Prop) (h_t h_t_settings h_t_dots h_t_cuts h_t_skips h_t_weights : Nat) (v_t_wide : Int) (v_t_high : Int) (v_t_frames : Int) (f_t_settings : Nat → Int) (x1 : Int) (x2 : Int) (N : Nat) (r : Int) : Prop := ∀ (pc : Nat) (H : Heap) (locs : List Loc) (ls : Array Slot), decode cX2_allows pc = .ok (.ireturn, 1) → narrow .boolean (.int (iZ r)) = .int (iZ r) → va_P D vwCl (wX2_allows cA h_t h_t_settings h_t_dots h_t_cuts h_t_skips h_t_weights v_t_wide v_t_high v_t_frames f_t_settings) H → va_D A (wX2_allows cA h_t h_t_settings h_t_dots h_t_cuts h_t_skips h_t_weights v_t_wide v_t_high v_t_frames f_t_settings) → va_S A s.heap H locs → W p l e rmX2_allows s m args below meth c H locs 0 0 Q (F0 m pc ls [.int (iZ r)])
set_option maxHeartbeats 4000000 in
set_option maxRecDepth 100000 in
theorem wX2_allows_E (p : Program) (l : Launch) (e : Env) (s : State) (m : MethodId) (args : Array Value) (below : List Frame) (meth : Method) (c : Code) (Q : State → Prop) (G : ZG) (D : va_G) (cA : Nat → ClassId) (A : Nat → Prop) (h_t h_t_settings h_t_dots h_t_cuts h_t_skips h_t_weights : Nat) (v_t_wide : Int) (v_t_high : Int) (v_t_frames : Int) (f_t_settings : Nat → Int) (x1 : Int) (x2 : Int) (N : Nat) (C : CallFix p m c cX2_allows 3 s args vX2_allows RX2) (hK : va_K D vwCl (zT cA) s) (hA : ∀ q, s.heap.size ≤ q → A q) (hZ : zSt G A s s.heap) (r : Int) (kr : kX2_allows p l e s m args below meth c Q G D cA A h_t h_t_settings h_t_dots h_t_cuts h_t_skips h_t_weights v_t_wide v_t_high v_t_frames f_t_settings x1 x2 N r) (h : fX2_allows N f_t_settings x1 x2 = some r) (H : Heap) (locs : List Loc) (hP : va_P D vwCl (wX2_allows cA h_t h_t_settings h_t_dots h_t_cuts h_t_skips h_t_weights v_t_wide v_t_high v_t_frames f_t_settings) H) (hD : va_D A (wX2_allows cA h_t h_t_settings h_t_dots h_t_cuts h_t_skips h_t_weights v_t_wide v_t_high v_t_frames f_t_settings)) (hS : va_S A s.heap H locs) (ls : Array Slot) (hl : lv_has ls 3 [(0, .ref h_t), (1, .int (iZ x1)), (2, .int (iZ x2))]) : W p l e rmX2_allows s m args below meth c H locs 0 0 Q (F0 m 0 ls []) := by
  obtain ⟨hx, hb, hml, hown, hts⟩ := id C
  have hq : ∀ w ∈ wAll, w.before args s = true := fun w h => hts w (List.mem_cons_of_mem _ h)
  unfold fX2_allows at h
  refine lv_iload_n hx hb dX2_allows_0 rfl (lv_at hl 2 rfl) ?_
  refine z_if_lt (tgt := 13) hx hb dX2_allows_1 (by decide) (fun c1 => ?_) (fun c1 => ?_)
  · rw [if_pos c1] at h
    refine z_iconst hx hb dX2_allows_13 ?_
    cases h
    exact kr _ _ _ _ dX2_allows_14 (zb_nar (Or.inl rfl)) hP hD hS
  · rw [if_neg c1] at h
    refine lv_iload_n hx hb dX2_allows_4 rfl (lv_at hl 2 rfl) ?_
    refine va_getsN (v := .ref G.2.1) hx hb hZ.1.2.1 hS hown (va_Nw.use rfl hZ.2.2.2.1) (fun _ h9 => h9) dX2_allows_5 ?_
    refine lv_iload_n hx hb dX2_allows_8 rfl (lv_at hl 1 rfl) ?_
    obtain ⟨g2, h⟩ := gd_some h
    refine z_gald hx hb hS hZ.1.2.2.2 (Nat.le_of_ble_eq_true rfl) g2 dX2_allows_9 ?_
    refine z_icmp_le (tgt := 15) hx hb dX2_allows_10 (by decide) (fun c3 => ?_) (fun c3 => ?_)
    · rw [if_neg c3] at h
      refine lv_iload_n hx hb dX2_allows_15 rfl (lv_at hl 1 rfl) ?_
      refine z_iconst hx hb dX2_allows_16 ?_
      refine z_icmp_ne (tgt := 36) hx hb dX2_allows_17 (by decide) (fun c4 => ?_) (fun c4 => ?_)
      · rw [if_neg c4] at h
        refine lv_iload_n hx hb dX2_allows_36 rfl (lv_at hl 1 rfl) ?_
        refine z_iconst hx hb dX2_allows_37 ?_
        refine z_icmp_ne (tgt := 51) hx hb dX2_allows_38 (by decide) (fun c5 => ?_) (fun c5 => ?_)
        · rw [if_neg c5] at h
          refine z_iconst hx hb dX2_allows_51 ?_
          refine lv_goto (tgt := 56) hx hb dX2_allows_52 (by decide) ?_
          cases h
          exact kr _ _ _ _ dX2_allows_56 (zb_nar (Or.inr rfl)) hP hD hS
        · rw [if_pos c5] at h
          refine lv_iload_n hx hb dX2_allows_41 rfl (lv_at hl 2 rfl) ?_
          refine lv_aload_n hx hb dX2_allows_42 rfl (lv_at hl 0 rfl) ?_
          refine va_get (D := D) (ci := 2) (v := .ref h_t_settings) (C := RX2) (T := TX2) (N := 8) hx hb hq in_wsX20 hown hK hP 0 rfl rfl 3 (by decide) (hq _ q8) (fun _ h9 => h9) rfl dX2_allows_43 ?_
          refine z_iconst hx hb dX2_allows_46 ?_
          obtain ⟨g6, h⟩ := gd_some h
          refine z_iald hx hb hK hP 1 0 rfl rfl (Nat.le_of_ble_eq_true rfl) g6 dX2_allows_47 ?_
          refine z_icmp_lt (tgt := 55) hx hb dX2_allows_48 (by decide) (fun c7 => ?_) (fun c7 => ?_)
          · rw [if_pos c7] at h
            refine z_iconst hx hb dX2_allows_55 ?_
            cases h
            exact kr _ _ _ _ dX2_allows_56 (zb_nar (Or.inl rfl)) hP hD hS
          · rw [if_neg c7] at h
            refine z_iconst hx hb dX2_allows_51 ?_
            refine lv_goto (tgt := 56) hx hb dX2_allows_52 (by decide) ?_
            cases h
            exact kr _ _ _ _ dX2_allows_56 (zb_nar (Or.inr rfl)) hP hD hS
      · rw [if_pos c4] at h
        refine lv_iload_n hx hb dX2_allows_20 rfl (lv_at hl 2 rfl) ?_
        refine lv_aload_n hx hb dX2_allows_21 rfl (lv_at hl 0 rfl) ?_
        refine va_get (D := D) (ci := 2) (v := .ref h_t_settings) (C := RX2) (T := TX2) (N := 8) hx hb hq in_wsX20 hown hK hP 0 rfl rfl 3 (by decide) (hq _ q8) (fun _ h9 => h9) rfl dX2_allows_22 ?_
        refine z_iconst hx hb dX2_allows_25 ?_
        obtain ⟨g8, h⟩ := gd_some h
        refine z_iald hx hb hK hP 1 0 rfl rfl (Nat.le_of_ble_eq_true rfl) g8 dX2_allows_26 ?_
        refine z_icmp_gt (tgt := 34) hx hb dX2_allows_27 (by decide) (fun c9 => ?_) (fun c9 => ?_)
        · rw [if_pos c9] at h
          refine z_iconst hx hb dX2_allows_34 ?_
          cases h
          exact kr _ _ _ _ dX2_allows_35 (zb_nar (Or.inl rfl)) hP hD hS
        · rw [if_neg c9] at h
          refine z_iconst hx hb dX2_allows_30 ?_
          refine lv_goto (tgt := 35) hx hb dX2_allows_31 (by decide) ?_
          cases h
          exact kr _ _ _ _ dX2_allows_35 (zb_nar (Or.inr rfl)) hP hD hS
    · rw [if_pos c3] at h
      refine z_iconst hx hb dX2_allows_13 ?_
      cases h
      exact kr _ _ _ _ dX2_allows_14 (zb_nar (Or.inl rfl)) hP hD hS
set_option maxHeartbeats 4000000 in
set_option maxRecDepth 100000 in
theorem cX2_allows_m (l : Launch) (G : ZG) (D : va_G) (cA : Nat → ClassId) (h_t h_t_settings h_t_dots h_t_cuts h_t_skips h_t_weights : Nat) (v_t_wide : Int) (v_t_high : Int) (v_t_frames : Int) (f_t_settings : Nat → Int) (x1 : Int) (x2 : Int) (sz N : Nat) {r : Int} (hF : fX2_allows N f_t_settings x1 x2 = some r) : zMi l yX2_allows vX2_allows rmX2_allows G D cA [.ref h_t, .int (iZ x1), .int (iZ x2)] (wX2_allows cA h_t h_t_settings h_t_dots h_t_cuts h_t_skips h_t_weights v_t_wide v_t_high v_t_frames f_t_settings) (wX2_allows cA h_t h_t_settings h_t_dots h_t_cuts h_t_skips h_t_weights v_t_wide v_t_high v_t_frames f_t_settings) r sz := by
  refine Met.ofW (cc := cX2_allows) (maxL := 3) (ret := (some .boolean)) (by decide) rfl ?_
  intro p e s m args below meth c s₁ B hml hv
  obtain ⟨rfl, hsz, hP, hK, hD0, hZ⟩ := hv
  subst hsz
  have hlocks := B.notSynchronized
  have hl := lv_entry ([.ref h_t, .int (iZ x1), .int (iZ x2)]) (n := 3) (Nat.le_of_ble_eq_true rfl)
  rw [lg_entry_eq]
  generalize (lg_sl ([.ref h_t, .int (iZ x1), .int (iZ x2)]) ++ List.replicate (3 - (lg_sl ([.ref h_t, .int (iZ x1), .int (iZ x2)])).length) Slot.unset).toArray = ls at hl ⊢
  exact wX2_allows_E p l e s m _ below meth c _ G D cA _ h_t h_t_settings h_t_dots h_t_cuts h_t_skips h_t_weights v_t_wide v_t_high v_t_frames f_t_settings x1 x2 N ⟨B.exec, B.bytes, hml, findClass_of_methodNamed B.named, atoms_spec (ws := vX2_allows) B.pre⟩ hK (fun q h => Or.inr h) hZ r (fun pc H locs ls hd hnar hP hD hS => W.zret B.exec B.bytes B.returns hnar (fun t ht hW => ⟨⟨_, (), rfl, rfl, by rw [ht]; exact hP, va_K.moved hW.alike hK, hD⟩, hS.F ht⟩) hS.2.2 hd) hF s.heap [] hP (hD0.self (sz := s.heap.size)) va_S.rf ls hl

/-! ===== FlickerDesk$Film.marked([I)I ===== -/
abbrev rmX2_marked : Room := { frames := 0, cells := 0, slots := 0, locals := 0 }
abbrev wX2_marked (cA : Nat → ClassId) (h_t h_a1 h_t_dots h_t_cuts h_t_skips h_t_settings h_t_weights : Nat) (v_t_wide : Int) (v_t_high : Int) (v_t_frames : Int) (f_a1 : Nat → Int) : va_W := [(h_t, .inr (2, [.ref h_t_dots, .ref h_t_cuts, .ref h_t_skips, .ref h_t_settings, .ref h_t_weights, .int (iZ v_t_wide), .int (iZ v_t_high), .int (iZ v_t_frames)])), (h_a1, zA (cA 0) 24 f_a1)]
def fX2_marked_b4 (N : Nat) (v_t_frames : Int) (f_a1 : Nat → Int) (rec : Int → Int → Option (Int)) (k : Int → Option (Int)) (i2 : Int) (i3 : Int) : Option (Int) := (if iZ i3 < iZ v_t_frames then (gd ((0 : Int) ≤ i3 ∧ i3 < 24) (rec (i2 + (f_a1 i3.toNat)) (i3 + 1))) else (k i2))
def fX2_marked_L4 (N : Nat) (v_t_frames : Int) (f_a1 : Nat → Int) (k : Int → Option (Int)) : Nat → Int → Int → Option (Int)
  | 0 => fun _ _ => none
  | n + 1 => fX2_marked_b4 N v_t_frames f_a1 (fX2_marked_L4 N v_t_frames f_a1 k n) k
def fX2_marked_j24 (N : Nat) (v_t_frames : Int) (f_a1 : Nat → Int) (i2 : Int) : Option (Int) := (some i2)
def fX2_marked (N : Nat) (v_t_frames : Int) (f_a1 : Nat → Int) : Option (Int) := (fX2_marked_L4 N v_t_frames f_a1 (fX2_marked_j24 N v_t_frames f_a1) N 0 0)
abbrev kX2_marked (p : Program) (l : Launch) (e : Env) (s : State) (m : MethodId) (args : Array Value) (below : List Frame) (meth : Method) (c : Code) (Q : State → Prop) (G : ZG) (D : va_G) (cA : Nat → ClassId) (A : Nat → Prop) (h_t h_a1 h_t_dots h_t_cuts h_t_skips h_t_settings h_t_weights : Nat) (v_t_wide : Int) (v_t_high : Int) (v_t_frames : Int) (f_a1 : Nat → Int) (N : Nat) (r : Int) : Prop := ∀ (pc : Nat) (H : Heap) (locs : List Loc) (ls : Array Slot), decode cX2_marked pc = .ok (.ireturn, 1) → va_P D vwCl (wX2_marked cA h_t h_a1 h_t_dots h_t_cuts h_t_skips h_t_settings h_t_weights v_t_wide v_t_high v_t_frames f_a1) H → va_D A (wX2_marked cA h_t h_a1 h_t_dots h_t_cuts h_t_skips h_t_settings h_t_weights v_t_wide v_t_high v_t_frames f_a1) → va_S A s.heap H locs → W p l e rmX2_marked s m args below meth c H locs 0 0 Q (F0 m pc ls [.int (iZ r)])
abbrev sX2_marked_24 (p : Program) (l : Launch) (e : Env) (s : State) (m : MethodId) (args : Array Value) (below : List Frame) (meth : Method) (c : Code) (Q : State → Prop) (G : ZG) (D : va_G) (cA : Nat → ClassId) (A : Nat → Prop) (h_t h_a1 h_t_dots h_t_cuts h_t_skips h_t_settings h_t_weights : Nat) (v_t_wide : Int) (v_t_high : Int) (v_t_frames : Int) (f_a1 : Nat → Int) (N : Nat) (i2 : Int) : Prop := ∀ (H : Heap) (locs : List Loc), va_P D vwCl (wX2_marked cA h_t h_a1 h_t_dots h_t_cuts h_t_skips h_t_settings h_t_weights v_t_wide v_t_high v_t_frames f_a1) H → va_D A (wX2_marked cA h_t h_a1 h_t_dots h_t_cuts h_t_skips h_t_settings h_t_weights v_t_wide v_t_high v_t_frames f_a1) → va_S A s.heap H locs → ∀ ls : Array Slot, lv_has ls 4 [(2, .int (iZ i2))] → W p l e rmX2_marked s m args below meth c H locs 0 0 Q (F0 m 24 ls [])
abbrev sX2_marked_4 (p : Program) (l : Launch) (e : Env) (s : State) (m : MethodId) (args : Array Value) (below : List Frame) (meth : Method) (c : Code) (Q : State → Prop) (G : ZG) (D : va_G) (cA : Nat → ClassId) (A : Nat → Prop) (h_t h_a1 h_t_dots h_t_cuts h_t_skips h_t_settings h_t_weights : Nat) (v_t_wide : Int) (v_t_high : Int) (v_t_frames : Int) (f_a1 : Nat → Int) (N : Nat) (i2 : Int) (i3 : Int) : Prop := ∀ (H : Heap) (locs : List Loc), va_P D vwCl (wX2_marked cA h_t h_a1 h_t_dots h_t_cuts h_t_skips h_t_settings h_t_weights v_t_wide v_t_high v_t_frames f_a1) H → va_D A (wX2_marked cA h_t h_a1 h_t_dots h_t_cuts h_t_skips h_t_settings h_t_weights v_t_wide v_t_high v_t_frames f_a1) → va_S A s.heap H locs → ∀ ls : Array Slot, lv_has ls 4 [(0, .ref h_t), (1, .ref h_a1), (2, .int (iZ i2)), (3, .int (iZ i3))] → W p l e rmX2_marked s m args below meth c H locs 0 0 Q (F0 m 4 ls [])
set_option maxHeartbeats 4000000 in
set_option maxRecDepth 100000 in
theorem wX2_marked_b4 (p : Program) (l : Launch) (e : Env) (s : State) (m : MethodId) (args : Array Value) (below : List Frame) (meth : Method) (c : Code) (Q : State → Prop) (G : ZG) (D : va_G) (cA : Nat → ClassId) (A : Nat → Prop) (h_t h_a1 h_t_dots h_t_cuts h_t_skips h_t_settings h_t_weights : Nat) (v_t_wide : Int) (v_t_high : Int) (v_t_frames : Int) (f_a1 : Nat → Int) (N : Nat) (C : CallFix p m c cX2_marked 4 s args vX2_marked RX2) (hK : va_K D vwCl (zT cA) s) (hA : ∀ q, s.heap.size ≤ q → A q) (hZ : zSt G A s s.heap) (r : Int) (kr : kX2_marked p l e s m args below meth c Q G D cA A h_t h_a1 h_t_dots h_t_cuts h_t_skips h_t_settings h_t_weights v_t_wide v_t_high v_t_frames f_a1 N r) (rec : Int → Int → Option (Int)) (k : Int → Option (Int)) (hrec : ∀ (i2 : Int) (i3 : Int), rec i2 i3 = some r → sX2_marked_4 p l e s m args below meth c Q G D cA A h_t h_a1 h_t_dots h_t_cuts h_t_skips h_t_settings h_t_weights v_t_wide v_t_high v_t_frames f_a1 N i2 i3) (hk : ∀ (i2 : Int), k i2 = some r → sX2_marked_24 p l e s m args below meth c Q G D cA A h_t h_a1 h_t_dots h_t_cuts h_t_skips h_t_settings h_t_weights v_t_wide v_t_high v_t_frames f_a1 N i2) (i2 : Int) (i3 : Int) (h : fX2_marked_b4 N v_t_frames f_a1 rec k i2 i3 = some r) : sX2_marked_4 p l e s m args below meth c Q G D cA A h_t h_a1 h_t_dots h_t_cuts h_t_skips h_t_settings h_t_weights v_t_wide v_t_high v_t_frames f_a1 N i2 i3 := by
  obtain ⟨hx, hb, hml, hown, hts⟩ := id C
  have hq : ∀ w ∈ wAll, w.before args s = true := fun w h => hts w (List.mem_cons_of_mem _ h)
  intro H locs hP hD hS ls hl
  unfold fX2_marked_b4 at h
  refine lv_iload_n hx hb dX2_marked_4 rfl (lv_at hl 3 rfl) ?_
  refine lv_aload_n hx hb dX2_marked_5 rfl (lv_at hl 0 rfl) ?_
  refine va_get (D := D) (ci := 2) (v := .int (iZ v_t_frames)) (C := RX2) (T := TX2) (N := 8) hx hb hq in_wsX20 hown hK hP 0 rfl rfl 7 (by decide) (hq _ q4) (fun _ h9 => h9) rfl dX2_marked_6 ?_
  refine z_icmp_ge (tgt := 24) hx hb dX2_marked_9 (by decide) (fun c1 => ?_) (fun c1 => ?_)
  · rw [if_neg c1] at h
    exact hk i2 h H locs hP hD hS ls (lv_sub hl [2] rfl)
  · rw [if_pos c1] at h
    refine lv_iload_n hx hb dX2_marked_12 rfl (lv_at hl 2 rfl) ?_
    refine lv_aload_n hx hb dX2_marked_13 rfl (lv_at hl 1 rfl) ?_
    refine lv_iload_n hx hb dX2_marked_14 rfl (lv_at hl 3 rfl) ?_
    obtain ⟨g2, h⟩ := gd_some h
    refine z_iald hx hb hK hP 1 0 rfl rfl (Nat.le_of_ble_eq_true rfl) g2 dX2_marked_15 ?_
    refine z_iadd hx hb dX2_marked_16 ?_
    refine lv_istore_n (lv' := [(2, .int (iZ (i2 + (f_a1 i3.toNat)))), (0, .ref h_t), (1, .ref h_a1), (3, .int (iZ i3))]) hx hb dX2_marked_17 rfl hl (by decide) rfl (fun ls hl => ?_)
    refine z_iinc (lv' := [(3, .int (iZ (i3 + 1))), (2, .int (iZ (i2 + (f_a1 i3.toNat)))), (0, .ref h_t), (1, .ref h_a1)]) hx hb dX2_marked_18 hl (k := 3) rfl (by decide) rfl (fun ls hl => ?_)
    refine lv_goto (tgt := 4) hx hb dX2_marked_21 (by decide) ?_
    exact hrec (i2 + (f_a1 i3.toNat)) (i3 + 1) h H locs hP hD hS ls (lv_sub hl [2, 3, 1, 0] rfl)
theorem wX2_marked_L4 (p : Program) (l : Launch) (e : Env) (s : State) (m : MethodId) (args : Array Value) (below : List Frame) (meth : Method) (c : Code) (Q : State → Prop) (G : ZG) (D : va_G) (cA : Nat → ClassId) (A : Nat → Prop) (h_t h_a1 h_t_dots h_t_cuts h_t_skips h_t_settings h_t_weights : Nat) (v_t_wide : Int) (v_t_high : Int) (v_t_frames : Int) (f_a1 : Nat → Int) (N : Nat) (C : CallFix p m c cX2_marked 4 s args vX2_marked RX2) (hK : va_K D vwCl (zT cA) s) (hA : ∀ q, s.heap.size ≤ q → A q) (hZ : zSt G A s s.heap) (r : Int) (kr : kX2_marked p l e s m args below meth c Q G D cA A h_t h_a1 h_t_dots h_t_cuts h_t_skips h_t_settings h_t_weights v_t_wide v_t_high v_t_frames f_a1 N r) (k : Int → Option (Int)) (hk : ∀ (i2 : Int), k i2 = some r → sX2_marked_24 p l e s m args below meth c Q G D cA A h_t h_a1 h_t_dots h_t_cuts h_t_skips h_t_settings h_t_weights v_t_wide v_t_high v_t_frames f_a1 N i2) : ∀ (n : Nat) (i2 : Int) (i3 : Int), fX2_marked_L4 N v_t_frames f_a1 k n i2 i3 = some r → sX2_marked_4 p l e s m args below meth c Q G D cA A h_t h_a1 h_t_dots h_t_cuts h_t_skips h_t_settings h_t_weights v_t_wide v_t_high v_t_frames f_a1 N i2 i3 := by
  intro n
  induction n with
  | zero =>
    intro i2 i3 h
    have h : none = some r := h
    cases h
  | succ n ih =>
    intro i2 i3 h
    exact wX2_marked_b4 p l e s m args below meth c Q G D cA A h_t h_a1 h_t_dots h_t_cuts h_t_skips h_t_settings h_t_weights v_t_wide v_t_high v_t_frames f_a1 N C hK hA hZ r kr (fX2_marked_L4 N v_t_frames f_a1 k n) k ih hk i2 i3 h
set_option maxHeartbeats 4000000 in
set_option maxRecDepth 100000 in
theorem wX2_marked_j24 (p : Program) (l : Launch) (e : Env) (s : State) (m : MethodId) (args : Array Value) (below : List Frame) (meth : Method) (c : Code) (Q : State → Prop) (G : ZG) (D : va_G) (cA : Nat → ClassId) (A : Nat → Prop) (h_t h_a1 h_t_dots h_t_cuts h_t_skips h_t_settings h_t_weights : Nat) (v_t_wide : Int) (v_t_high : Int) (v_t_frames : Int) (f_a1 : Nat → Int) (N : Nat) (C : CallFix p m c cX2_marked 4 s args vX2_marked RX2) (hK : va_K D vwCl (zT cA) s) (hA : ∀ q, s.heap.size ≤ q → A q) (hZ : zSt G A s s.heap) (r : Int) (kr : kX2_marked p l e s m args below meth c Q G D cA A h_t h_a1 h_t_dots h_t_cuts h_t_skips h_t_settings h_t_weights v_t_wide v_t_high v_t_frames f_a1 N r) (i2 : Int) (h : fX2_marked_j24 N v_t_frames f_a1 i2 = some r) : sX2_marked_24 p l e s m args below meth c Q G D cA A h_t h_a1 h_t_dots h_t_cuts h_t_skips h_t_settings h_t_weights v_t_wide v_t_high v_t_frames f_a1 N i2 := by
  obtain ⟨hx, hb, hml, hown, hts⟩ := id C
  have hq : ∀ w ∈ wAll, w.before args s = true := fun w h => hts w (List.mem_cons_of_mem _ h)
  intro H locs hP hD hS ls hl
  unfold fX2_marked_j24 at h
  refine lv_iload_n hx hb dX2_marked_24 rfl (lv_at hl 0 rfl) ?_
  cases h
  exact kr _ _ _ _ dX2_marked_25 hP hD hS
set_option maxHeartbeats 4000000 in
set_option maxRecDepth 100000 in
theorem wX2_marked_E (p : Program) (l : Launch) (e : Env) (s : State) (m : MethodId) (args : Array Value) (below : List Frame) (meth : Method) (c : Code) (Q : State → Prop) (G : ZG) (D : va_G) (cA : Nat → ClassId) (A : Nat → Prop) (h_t h_a1 h_t_dots h_t_cuts h_t_skips h_t_settings h_t_weights : Nat) (v_t_wide : Int) (v_t_high : Int) (v_t_frames : Int) (f_a1 : Nat → Int) (N : Nat) (C : CallFix p m c cX2_marked 4 s args vX2_marked RX2) (hK : va_K D vwCl (zT cA) s) (hA : ∀ q, s.heap.size ≤ q → A q) (hZ : zSt G A s s.heap) (r : Int) (kr : kX2_marked p l e s m args below meth c Q G D cA A h_t h_a1 h_t_dots h_t_cuts h_t_skips h_t_settings h_t_weights v_t_wide v_t_high v_t_frames f_a1 N r) (h : fX2_marked N v_t_frames f_a1 = some r) (H : Heap) (locs : List Loc) (hP : va_P D vwCl (wX2_marked cA h_t h_a1 h_t_dots h_t_cuts h_t_skips h_t_settings h_t_weights v_t_wide v_t_high v_t_frames f_a1) H) (hD : va_D A (wX2_marked cA h_t h_a1 h_t_dots h_t_cuts h_t_skips h_t_settings h_t_weights v_t_wide v_t_high v_t_frames f_a1)) (hS : va_S A s.heap H locs) (ls : Array Slot) (hl : lv_has ls 4 [(0, .ref h_t), (1, .ref h_a1)]) : W p l e rmX2_marked s m args below meth c H locs 0 0 Q (F0 m 0 ls []) := by
  obtain ⟨hx, hb, hml, hown, hts⟩ := id C
  have hq : ∀ w ∈ wAll, w.before args s = true := fun w h => hts w (List.mem_cons_of_mem _ h)
  unfold fX2_marked at h
  refine z_iconst hx hb dX2_marked_0 ?_
  refine lv_istore_n (lv' := [(2, .int (iZ 0)), (0, .ref h_t), (1, .ref h_a1)]) hx hb dX2_marked_1 rfl hl (by decide) rfl (fun ls hl => ?_)
  refine z_iconst hx hb dX2_marked_2 ?_
  refine lv_istore_n (lv' := [(3, .int (iZ 0)), (2, .int (iZ 0)), (0, .ref h_t), (1, .ref h_a1)]) hx hb dX2_marked_3 rfl hl (by decide) rfl (fun ls hl => ?_)
  exact wX2_marked_L4 p l e s m args below meth c Q G D cA A h_t h_a1 h_t_dots h_t_cuts h_t_skips h_t_settings h_t_weights v_t_wide v_t_high v_t_frames f_a1 N C hK hA hZ r kr (fX2_marked_j24 N v_t_frames f_a1) (fun y0 h9 => wX2_marked_j24 p l e s m args below meth c Q G D cA A h_t h_a1 h_t_dots h_t_cuts h_t_skips h_t_settings h_t_weights v_t_wide v_t_high v_t_frames f_a1 N C hK hA hZ r kr y0 h9) N 0 0 h H locs hP hD hS ls (lv_sub hl [2, 3, 1, 0] rfl)
set_option maxHeartbeats 4000000 in
set_option maxRecDepth 100000 in
theorem cX2_marked_m (l : Launch) (G : ZG) (D : va_G) (cA : Nat → ClassId) (h_t h_a1 h_t_dots h_t_cuts h_t_skips h_t_settings h_t_weights : Nat) (v_t_wide : Int) (v_t_high : Int) (v_t_frames : Int) (f_a1 : Nat → Int) (sz N : Nat) {r : Int} (hF : fX2_marked N v_t_frames f_a1 = some r) : zMi l yX2_marked vX2_marked rmX2_marked G D cA [.ref h_t, .ref h_a1] (wX2_marked cA h_t h_a1 h_t_dots h_t_cuts h_t_skips h_t_settings h_t_weights v_t_wide v_t_high v_t_frames f_a1) (wX2_marked cA h_t h_a1 h_t_dots h_t_cuts h_t_skips h_t_settings h_t_weights v_t_wide v_t_high v_t_frames f_a1) r sz := by
  refine Met.ofW (cc := cX2_marked) (maxL := 4) (ret := (some .int)) (by decide) rfl ?_
  intro p e s m args below meth c s₁ B hml hv
  obtain ⟨rfl, hsz, hP, hK, hD0, hZ⟩ := hv
  subst hsz
  have hlocks := B.notSynchronized
  have hl := lv_entry ([.ref h_t, .ref h_a1]) (n := 4) (Nat.le_of_ble_eq_true rfl)
  rw [lg_entry_eq]
  generalize (lg_sl ([.ref h_t, .ref h_a1]) ++ List.replicate (4 - (lg_sl ([.ref h_t, .ref h_a1])).length) Slot.unset).toArray = ls at hl ⊢
  exact wX2_marked_E p l e s m _ below meth c _ G D cA _ h_t h_a1 h_t_dots h_t_cuts h_t_skips h_t_settings h_t_weights v_t_wide v_t_high v_t_frames f_a1 N ⟨B.exec, B.bytes, hml, findClass_of_methodNamed B.named, atoms_spec (ws := vX2_marked) B.pre⟩ hK (fun q h => Or.inr h) hZ r (fun pc H locs ls hd hP hD hS => W.iret B.exec B.bytes B.returns (fun t ht hW => ⟨⟨_, (), rfl, rfl, by rw [ht]; exact hP, va_K.moved hW.alike hK, hD⟩, hS.F ht⟩) hS.2.2 hd) hF s.heap [] hP (hD0.self (sz := s.heap.size)) va_S.rf ls hl

/-! ===== FlickerDesk$Film.sameDots(II)Z ===== -/
abbrev rmX2_sameDots : Room := { frames := 1, cells := 0, slots := 0, locals := 20 }
abbrev wX2_sameDots (cA : Nat → ClassId) (h_t h_t_dots h_t_cuts h_t_skips h_t_settings h_t_weights : Nat) (v_t_wide : Int) (v_t_high : Int) (v_t_frames : Int) (f_t_dots : Nat → Int) : va_W := [(h_t, .inr (2, [.ref h_t_dots, .ref h_t_cuts, .ref h_t_skips, .ref h_t_settings, .ref h_t_weights, .int (iZ v_t_wide), .int (iZ v_t_high), .int (iZ v_t_frames)])), (h_t_dots, zA (cA 0) 1536 f_t_dots)]
def fX2_sameDots_b2 (N : Nat) (v_t_wide : Int) (v_t_high : Int) (f_t_dots : Nat → Int) (x1 : Int) (x2 : Int) (rec : Int → Option (Int)) (k : Option (Int)) (i3 : Int) : Option (Int) := ((fX2_size N v_t_wide v_t_high).bind fun r1 => (if iZ i3 < iZ r1 then (gd ((0 : Int) ≤ (x1 * 64) + i3 ∧ (x1 * 64) + i3 < 1536) (gd ((0 : Int) ≤ (x2 * 64) + i3 ∧ (x2 * 64) + i3 < 1536) (if iZ (f_t_dots ((x1 * 64) + i3).toNat) = iZ (f_t_dots ((x2 * 64) + i3).toNat) then (rec (i3 + 1)) else (some 0)))) else k))
def fX2_sameDots_L2 (N : Nat) (v_t_wide : Int) (v_t_high : Int) (f_t_dots : Nat → Int) (x1 : Int) (x2 : Int) (k : Option (Int)) : Nat → Int → Option (Int)
  | 0 => fun _ => none
  | n + 1 => fX2_sameDots_b2 N v_t_wide v_t_high f_t_dots x1 x2 (fX2_sameDots_L2 N v_t_wide v_t_high f_t_dots x1 x2 k n) k
def fX2_sameDots_j43 (N : Nat) (v_t_wide : Int) (v_t_high : Int) (f_t_dots : Nat → Int) (x1 : Int) (x2 : Int) : Option (Int) := (some 1)
def fX2_sameDots (N : Nat) (v_t_wide : Int) (v_t_high : Int) (f_t_dots : Nat → Int) (x1 : Int) (x2 : Int) : Option (Int) := (fX2_sameDots_L2 N v_t_wide v_t_high f_t_dots x1 x2 (fX2_sameDots_j43 N v_t_wide v_t_high f_t_dots x1 x2) N 0)
abbrev kX2_sameDots (p : Program) (l : Launch) (e : Env) (s : State) (m : MethodId) (args : Array Value) (below : List Frame) (meth : Method) (c : Code) (Q : State → Prop) (G : ZG) (D : va_G) (cA : Nat → ClassId) (A : Nat → Prop) (h_t h_t_dots h_t_cuts h_t_skips h_t_settings h_t_weights : Nat) (v_t_wide : Int) (v_t_high : Int) (v_t_frames : Int) (f_t_dots : Nat → Int) (x1 : Int) (x2 : Int) (N : Nat) (r : Int) : Prop := ∀ (pc : Nat) (H : Heap) (locs : List Loc) (ls : Array Slot), decode cX2_sameDots pc = .ok (.ireturn, 1) → narrow .boolean (.int (iZ r)) = .int (iZ r) → va_P D vwCl (wX2_sameDots cA h_t h_t_dots h_t_cuts h_t_skips h_t_settings h_t_weights v_t_wide v_t_high v_t_frames f_t_dots) H → va_D A (wX2_sameDots cA h_t h_t_dots h_t_cuts h_t_skips h_t_settings h_t_weights v_t_wide v_t_high v_t_frames f_t_dots) → va_S A s.heap H locs → W p l e rmX2_sameDots s m args below meth c H locs 0 0 Q (F0 m pc ls [.int (iZ r)])
abbrev sX2_sameDots_43 (p : Program) (l : Launch) (e : Env) (s : State) (m : MethodId) (args : Array Value) (below : List Frame) (meth : Method) (c : Code) (Q : State → Prop) (G : ZG) (D : va_G) (cA : Nat → ClassId) (A : Nat → Prop) (h_t h_t_dots h_t_cuts h_t_skips h_t_settings h_t_weights : Nat) (v_t_wide : Int) (v_t_high : Int) (v_t_frames : Int) (f_t_dots : Nat → Int) (x1 : Int) (x2 : Int) (N : Nat) : Prop := ∀ (H : Heap) (locs : List Loc), va_P D vwCl (wX2_sameDots cA h_t h_t_dots h_t_cuts h_t_skips h_t_settings h_t_weights v_t_wide v_t_high v_t_frames f_t_dots) H → va_D A (wX2_sameDots cA h_t h_t_dots h_t_cuts h_t_skips h_t_settings h_t_weights v_t_wide v_t_high v_t_frames f_t_dots) → va_S A s.heap H locs → ∀ ls : Array Slot, lv_has ls 4 [] → W p l e rmX2_sameDots s m args below meth c H locs 0 0 Q (F0 m 43 ls [])
abbrev sX2_sameDots_2 (p : Program) (l : Launch) (e : Env) (s : State) (m : MethodId) (args : Array Value) (below : List Frame) (meth : Method) (c : Code) (Q : State → Prop) (G : ZG) (D : va_G) (cA : Nat → ClassId) (A : Nat → Prop) (h_t h_t_dots h_t_cuts h_t_skips h_t_settings h_t_weights : Nat) (v_t_wide : Int) (v_t_high : Int) (v_t_frames : Int) (f_t_dots : Nat → Int) (x1 : Int) (x2 : Int) (N : Nat) (i3 : Int) : Prop := ∀ (H : Heap) (locs : List Loc), va_P D vwCl (wX2_sameDots cA h_t h_t_dots h_t_cuts h_t_skips h_t_settings h_t_weights v_t_wide v_t_high v_t_frames f_t_dots) H → va_D A (wX2_sameDots cA h_t h_t_dots h_t_cuts h_t_skips h_t_settings h_t_weights v_t_wide v_t_high v_t_frames f_t_dots) → va_S A s.heap H locs → ∀ ls : Array Slot, lv_has ls 4 [(0, .ref h_t), (1, .int (iZ x1)), (2, .int (iZ x2)), (3, .int (iZ i3))] → W p l e rmX2_sameDots s m args below meth c H locs 0 0 Q (F0 m 2 ls [])
set_option maxHeartbeats 4000000 in
set_option maxRecDepth 100000 in
theorem wX2_sameDots_b2 (p : Program) (l : Launch) (e : Env) (s : State) (m : MethodId) (args : Array Value) (below : List Frame) (meth : Method) (c : Code) (Q : State → Prop) (G : ZG) (D : va_G) (cA : Nat → ClassId) (A : Nat → Prop) (h_t h_t_dots h_t_cuts h_t_skips h_t_settings h_t_weights : Nat) (v_t_wide : Int) (v_t_high : Int) (v_t_frames : Int) (f_t_dots : Nat → Int) (x1 : Int) (x2 : Int) (N : Nat) (C : CallFix p m c cX2_sameDots 4 s args vX2_sameDots RX2) (hK : va_K D vwCl (zT cA) s) (hA : ∀ q, s.heap.size ≤ q → A q) (hZ : zSt G A s s.heap) (r : Int) (kr : kX2_sameDots p l e s m args below meth c Q G D cA A h_t h_t_dots h_t_cuts h_t_skips h_t_settings h_t_weights v_t_wide v_t_high v_t_frames f_t_dots x1 x2 N r) (rec : Int → Option (Int)) (k : Option (Int)) (hrec : ∀ (i3 : Int), rec i3 = some r → sX2_sameDots_2 p l e s m args below meth c Q G D cA A h_t h_t_dots h_t_cuts h_t_skips h_t_settings h_t_weights v_t_wide v_t_high v_t_frames f_t_dots x1 x2 N i3) (hk : k = some r → sX2_sameDots_43 p l e s m args below meth c Q G D cA A h_t h_t_dots h_t_cuts h_t_skips h_t_settings h_t_weights v_t_wide v_t_high v_t_frames f_t_dots x1 x2 N) (i3 : Int) (h : fX2_sameDots_b2 N v_t_wide v_t_high f_t_dots x1 x2 rec k i3 = some r) : sX2_sameDots_2 p l e s m args below meth c Q G D cA A h_t h_t_dots h_t_cuts h_t_skips h_t_settings h_t_weights v_t_wide v_t_high v_t_frames f_t_dots x1 x2 N i3 := by
  obtain ⟨hx, hb, hml, hown, hts⟩ := id C
  have hq : ∀ w ∈ wAll, w.before args s = true := fun w h => hts w (List.mem_cons_of_mem _ h)
  intro H locs hP hD hS ls hl
  unfold fX2_sameDots_b2 at h
  refine lv_iload_n hx hb dX2_sameDots_2 rfl (lv_at hl 3 rfl) ?_
  refine lv_aload_n hx hb dX2_sameDots_3 rfl (lv_at hl 0 rfl) ?_
  obtain ⟨r1, e1, h⟩ := bd_some h
  refine z_callVi (G := G) (D := D) (cA := cA) (wc := (wX2_size cA h_t h_t_dots h_t_cuts h_t_skips h_t_settings h_t_weights v_t_wide v_t_high v_t_frames)) (wr := [(h_t_dots, zA (cA 0) 1536 f_t_dots)]) (w1 := (wX2_size cA h_t h_t_dots h_t_cuts h_t_skips h_t_settings h_t_weights v_t_wide v_t_high v_t_frames)) (ws' := (wX2_sameDots cA h_t h_t_dots h_t_cuts h_t_skips h_t_settings h_t_weights v_t_wide v_t_high v_t_frames f_t_dots)) (r := r1) (As := []) C hK hA hZ hP hD hS [0] [1] [1, 0] rfl rfl rfl (by decide) (cX2_size_m l G D cA h_t h_t_dots h_t_cuts h_t_skips h_t_settings h_t_weights v_t_wide v_t_high v_t_frames H.size N e1) (cwV 0 hts (gAllV q251 q106 q107 q24 q88) rfl rfl rfl (by decide +kernel) ⟨Nat.le_of_ble_eq_true rfl, Nat.le_of_ble_eq_true rfl⟩) 0 2 rfl rfl rfl rfl hl.1 rfl (Nat.le_of_ble_eq_true rfl) ⟨Nat.zero_le _, Nat.zero_le _⟩ dX2_sameDots_4 (fun H locs hP hD hS => ?_)
  refine z_icmp_ge (tgt := 43) hx hb dX2_sameDots_7 (by decide) (fun c2 => ?_) (fun c2 => ?_)
  · rw [if_neg c2] at h
    exact hk  h H locs hP hD hS ls (lv_sub hl [] rfl)
  · rw [if_pos c2] at h
    refine lv_aload_n hx hb dX2_sameDots_10 rfl (lv_at hl 0 rfl) ?_
    refine va_get (D := D) (ci := 2) (v := .ref h_t_dots) (C := RX2) (T := TX2) (N := 8) hx hb hq in_wsX20 hown hK hP 0 rfl rfl 0 (by decide) (hq _ q20) (fun _ h9 => h9) rfl dX2_sameDots_11 ?_
    refine lv_iload_n hx hb dX2_sameDots_14 rfl (lv_at hl 1 rfl) ?_
    refine z_bipush hx hb dX2_sameDots_15 (by decide) ?_
    refine z_imul hx hb dX2_sameDots_17 ?_
    refine lv_iload_n hx hb dX2_sameDots_18 rfl (lv_at hl 3 rfl) ?_
    refine z_iadd hx hb dX2_sameDots_19 ?_
    obtain ⟨g3, h⟩ := gd_some h
    refine z_iald hx hb hK hP 1 0 rfl rfl (Nat.le_of_ble_eq_true rfl) g3 dX2_sameDots_20 ?_
    refine lv_aload_n hx hb dX2_sameDots_21 rfl (lv_at hl 0 rfl) ?_
    refine va_get (D := D) (ci := 2) (v := .ref h_t_dots) (C := RX2) (T := TX2) (N := 8) hx hb hq in_wsX20 hown hK hP 0 rfl rfl 0 (by decide) (hq _ q20) (fun _ h9 => h9) rfl dX2_sameDots_22 ?_
    refine lv_iload_n hx hb dX2_sameDots_25 rfl (lv_at hl 2 rfl) ?_
    refine z_bipush hx hb dX2_sameDots_26 (by decide) ?_
    refine z_imul hx hb dX2_sameDots_28 ?_
    refine lv_iload_n hx hb dX2_sameDots_29 rfl (lv_at hl 3 rfl) ?_
    refine z_iadd hx hb dX2_sameDots_30 ?_
    obtain ⟨g4, h⟩ := gd_some h
    refine z_iald hx hb hK hP 1 0 rfl rfl (Nat.le_of_ble_eq_true rfl) g4 dX2_sameDots_31 ?_
    refine z_icmp_eq (tgt := 37) hx hb dX2_sameDots_32 (by decide) (fun c5 => ?_) (fun c5 => ?_)
    · rw [if_pos c5] at h
      refine z_iinc (lv' := [(3, .int (iZ (i3 + 1))), (0, .ref h_t), (1, .int (iZ x1)), (2, .int (iZ x2))]) hx hb dX2_sameDots_37 hl (k := 3) rfl (by decide) rfl (fun ls hl => ?_)
      refine lv_goto (tgt := 2) hx hb dX2_sameDots_40 (by decide) ?_
      exact hrec (i3 + 1) h H locs hP hD hS ls (lv_sub hl [1, 2, 3, 0] rfl)
    · rw [if_neg c5] at h
      refine z_iconst hx hb dX2_sameDots_35 ?_
      cases h
      exact kr _ _ _ _ dX2_sameDots_36 (zb_nar (Or.inl rfl)) hP hD hS
theorem wX2_sameDots_L2 (p : Program) (l : Launch) (e : Env) (s : State) (m : MethodId) (args : Array Value) (below : List Frame) (meth : Method) (c : Code) (Q : State → Prop) (G : ZG) (D : va_G) (cA : Nat → ClassId) (A : Nat → Prop) (h_t h_t_dots h_t_cuts h_t_skips h_t_settings h_t_weights : Nat) (v_t_wide : Int) (v_t_high : Int) (v_t_frames : Int) (f_t_dots : Nat → Int) (x1 : Int) (x2 : Int) (N : Nat) (C : CallFix p m c cX2_sameDots 4 s args vX2_sameDots RX2) (hK : va_K D vwCl (zT cA) s) (hA : ∀ q, s.heap.size ≤ q → A q) (hZ : zSt G A s s.heap) (r : Int) (kr : kX2_sameDots p l e s m args below meth c Q G D cA A h_t h_t_dots h_t_cuts h_t_skips h_t_settings h_t_weights v_t_wide v_t_high v_t_frames f_t_dots x1 x2 N r) (k : Option (Int)) (hk : k = some r → sX2_sameDots_43 p l e s m args below meth c Q G D cA A h_t h_t_dots h_t_cuts h_t_skips h_t_settings h_t_weights v_t_wide v_t_high v_t_frames f_t_dots x1 x2 N) : ∀ (n : Nat) (i3 : Int), fX2_sameDots_L2 N v_t_wide v_t_high f_t_dots x1 x2 k n i3 = some r → sX2_sameDots_2 p l e s m args below meth c Q G D cA A h_t h_t_dots h_t_cuts h_t_skips h_t_settings h_t_weights v_t_wide v_t_high v_t_frames f_t_dots x1 x2 N i3 := by
  intro n
  induction n with
  | zero =>
    intro i3 h
    have h : none = some r := h
    cases h
  | succ n ih =>
    intro i3 h
    exact wX2_sameDots_b2 p l e s m args below meth c Q G D cA A h_t h_t_dots h_t_cuts h_t_skips h_t_settings h_t_weights v_t_wide v_t_high v_t_frames f_t_dots x1 x2 N C hK hA hZ r kr (fX2_sameDots_L2 N v_t_wide v_t_high f_t_dots x1 x2 k n) k ih hk i3 h
set_option maxHeartbeats 4000000 in
set_option maxRecDepth 100000 in
theorem wX2_sameDots_j43 (p : Program) (l : Launch) (e : Env) (s : State) (m : MethodId) (args : Array Value) (below : List Frame) (meth : Method) (c : Code) (Q : State → Prop) (G : ZG) (D : va_G) (cA : Nat → ClassId) (A : Nat → Prop) (h_t h_t_dots h_t_cuts h_t_skips h_t_settings h_t_weights : Nat) (v_t_wide : Int) (v_t_high : Int) (v_t_frames : Int) (f_t_dots : Nat → Int) (x1 : Int) (x2 : Int) (N : Nat) (C : CallFix p m c cX2_sameDots 4 s args vX2_sameDots RX2) (hK : va_K D vwCl (zT cA) s) (hA : ∀ q, s.heap.size ≤ q → A q) (hZ : zSt G A s s.heap) (r : Int) (kr : kX2_sameDots p l e s m args below meth c Q G D cA A h_t h_t_dots h_t_cuts h_t_skips h_t_settings h_t_weights v_t_wide v_t_high v_t_frames f_t_dots x1 x2 N r) (h : fX2_sameDots_j43 N v_t_wide v_t_high f_t_dots x1 x2 = some r) : sX2_sameDots_43 p l e s m args below meth c Q G D cA A h_t h_t_dots h_t_cuts h_t_skips h_t_settings h_t_weights v_t_wide v_t_high v_t_frames f_t_dots x1 x2 N := by
  obtain ⟨hx, hb, hml, hown, hts⟩ := id C
  have hq : ∀ w ∈ wAll, w.before args s = true := fun w h => hts w (List.mem_cons_of_mem _ h)
  intro H locs hP hD hS ls hl
  unfold fX2_sameDots_j43 at h
  refine z_iconst hx hb dX2_sameDots_43 ?_
  cases h
  exact kr _ _ _ _ dX2_sameDots_44 (zb_nar (Or.inr rfl)) hP hD hS
set_option maxHeartbeats 4000000 in
set_option maxRecDepth 100000 in
theorem wX2_sameDots_E (p : Program) (l : Launch) (e : Env) (s : State) (m : MethodId) (args : Array Value) (below : List Frame) (meth : Method) (c : Code) (Q : State → Prop) (G : ZG) (D : va_G) (cA : Nat → ClassId) (A : Nat → Prop) (h_t h_t_dots h_t_cuts h_t_skips h_t_settings h_t_weights : Nat) (v_t_wide : Int) (v_t_high : Int) (v_t_frames : Int) (f_t_dots : Nat → Int) (x1 : Int) (x2 : Int) (N : Nat) (C : CallFix p m c cX2_sameDots 4 s args vX2_sameDots RX2) (hK : va_K D vwCl (zT cA) s) (hA : ∀ q, s.heap.size ≤ q → A q) (hZ : zSt G A s s.heap) (r : Int) (kr : kX2_sameDots p l e s m args below meth c Q G D cA A h_t h_t_dots h_t_cuts h_t_skips h_t_settings h_t_weights v_t_wide v_t_high v_t_frames f_t_dots x1 x2 N r) (h : fX2_sameDots N v_t_wide v_t_high f_t_dots x1 x2 = some r) (H : Heap) (locs : List Loc) (hP : va_P D vwCl (wX2_sameDots cA h_t h_t_dots h_t_cuts h_t_skips h_t_settings h_t_weights v_t_wide v_t_high v_t_frames f_t_dots) H) (hD : va_D A (wX2_sameDots cA h_t h_t_dots h_t_cuts h_t_skips h_t_settings h_t_weights v_t_wide v_t_high v_t_frames f_t_dots)) (hS : va_S A s.heap H locs) (ls : Array Slot) (hl : lv_has ls 4 [(0, .ref h_t), (1, .int (iZ x1)), (2, .int (iZ x2))]) : W p l e rmX2_sameDots s m args below meth c H locs 0 0 Q (F0 m 0 ls []) := by
  obtain ⟨hx, hb, hml, hown, hts⟩ := id C
  have hq : ∀ w ∈ wAll, w.before args s = true := fun w h => hts w (List.mem_cons_of_mem _ h)
  unfold fX2_sameDots at h
  refine z_iconst hx hb dX2_sameDots_0 ?_
  refine lv_istore_n (lv' := [(3, .int (iZ 0)), (0, .ref h_t), (1, .int (iZ x1)), (2, .int (iZ x2))]) hx hb dX2_sameDots_1 rfl hl (by decide) rfl (fun ls hl => ?_)
  exact wX2_sameDots_L2 p l e s m args below meth c Q G D cA A h_t h_t_dots h_t_cuts h_t_skips h_t_settings h_t_weights v_t_wide v_t_high v_t_frames f_t_dots x1 x2 N C hK hA hZ r kr (fX2_sameDots_j43 N v_t_wide v_t_high f_t_dots x1 x2) (fun h9 => wX2_sameDots_j43 p l e s m args below meth c Q G D cA A h_t h_t_dots h_t_cuts h_t_skips h_t_settings h_t_weights v_t_wide v_t_high v_t_frames f_t_dots x1 x2 N C hK hA hZ r kr  h9) N 0 h H locs hP hD hS ls (lv_sub hl [1, 2, 3, 0] rfl)
set_option maxHeartbeats 4000000 in
set_option maxRecDepth 100000 in
theorem cX2_sameDots_m (l : Launch) (G : ZG) (D : va_G) (cA : Nat → ClassId) (h_t h_t_dots h_t_cuts h_t_skips h_t_settings h_t_weights : Nat) (v_t_wide : Int) (v_t_high : Int) (v_t_frames : Int) (f_t_dots : Nat → Int) (x1 : Int) (x2 : Int) (sz N : Nat) {r : Int} (hF : fX2_sameDots N v_t_wide v_t_high f_t_dots x1 x2 = some r) : zMi l yX2_sameDots vX2_sameDots rmX2_sameDots G D cA [.ref h_t, .int (iZ x1), .int (iZ x2)] (wX2_sameDots cA h_t h_t_dots h_t_cuts h_t_skips h_t_settings h_t_weights v_t_wide v_t_high v_t_frames f_t_dots) (wX2_sameDots cA h_t h_t_dots h_t_cuts h_t_skips h_t_settings h_t_weights v_t_wide v_t_high v_t_frames f_t_dots) r sz := by
  refine Met.ofW (cc := cX2_sameDots) (maxL := 4) (ret := (some .boolean)) (by decide) rfl ?_
  intro p e s m args below meth c s₁ B hml hv
  obtain ⟨rfl, hsz, hP, hK, hD0, hZ⟩ := hv
  subst hsz
  have hlocks := B.notSynchronized
  have hl := lv_entry ([.ref h_t, .int (iZ x1), .int (iZ x2)]) (n := 4) (Nat.le_of_ble_eq_true rfl)
  rw [lg_entry_eq]
  generalize (lg_sl ([.ref h_t, .int (iZ x1), .int (iZ x2)]) ++ List.replicate (4 - (lg_sl ([.ref h_t, .int (iZ x1), .int (iZ x2)])).length) Slot.unset).toArray = ls at hl ⊢
  exact wX2_sameDots_E p l e s m _ below meth c _ G D cA _ h_t h_t_dots h_t_cuts h_t_skips h_t_settings h_t_weights v_t_wide v_t_high v_t_frames f_t_dots x1 x2 N ⟨B.exec, B.bytes, hml, findClass_of_methodNamed B.named, atoms_spec (ws := vX2_sameDots) B.pre⟩ hK (fun q h => Or.inr h) hZ r (fun pc H locs ls hd hnar hP hD hS => W.zret B.exec B.bytes B.returns hnar (fun t ht hW => ⟨⟨_, (), rfl, rfl, by rw [ht]; exact hP, va_K.moved hW.alike hK, hD⟩, hS.F ht⟩) hS.2.2 hd) hF s.heap [] hP (hD0.self (sz := s.heap.size)) va_S.rf ls hl

/-! ===== FlickerDesk$Film.firstLike(I)I ===== -/
abbrev rmX2_firstLike : Room := { frames := 2, cells := 0, slots := 0, locals := 43 }
abbrev wX2_firstLike (cA : Nat → ClassId) (h_t h_t_dots h_t_cuts h_t_skips h_t_settings h_t_weights : Nat) (v_t_wide : Int) (v_t_high : Int) (v_t_frames : Int) (f_t_dots : Nat → Int) : va_W := [(h_t, .inr (2, [.ref h_t_dots, .ref h_t_cuts, .ref h_t_skips, .ref h_t_settings, .ref h_t_weights, .int (iZ v_t_wide), .int (iZ v_t_high), .int (iZ v_t_frames)])), (h_t_dots, zA (cA 0) 1536 f_t_dots)]
def fX2_firstLike_b2 (N : Nat) (v_t_wide : Int) (v_t_high : Int) (f_t_dots : Nat → Int) (x1 : Int) (rec : Int → Option (Int)) (k : Option (Int)) (i2 : Int) : Option (Int) := (if iZ i2 < iZ x1 then ((fX2_sameDots N v_t_wide v_t_high f_t_dots i2 x1).bind fun r2 => (if iZ r2 = iZ 0 then (rec (i2 + 1)) else (some i2))) else k)
def fX2_firstLike_L2 (N : Nat) (v_t_wide : Int) (v_t_high : Int) (f_t_dots : Nat → Int) (x1 : Int) (k : Option (Int)) : Nat → Int → Option (Int)
  | 0 => fun _ => none
  | n + 1 => fX2_firstLike_b2 N v_t_wide v_t_high f_t_dots x1 (fX2_firstLike_L2 N v_t_wide v_t_high f_t_dots x1 k n) k
def fX2_firstLike_j24 (N : Nat) (v_t_wide : Int) (v_t_high : Int) (f_t_dots : Nat → Int) (x1 : Int) : Option (Int) := (some x1)
def fX2_firstLike (N : Nat) (v_t_wide : Int) (v_t_high : Int) (f_t_dots : Nat → Int) (x1 : Int) : Option (Int) := (fX2_firstLike_L2 N v_t_wide v_t_high f_t_dots x1 (fX2_firstLike_j24 N v_t_wide v_t_high f_t_dots x1) N 0)
abbrev kX2_firstLike (p : Program) (l : Launch) (e : Env) (s : State) (m : MethodId) (args : Array Value) (below : List Frame) (meth : Method) (c : Code) (Q : State → Prop) (G : ZG) (D : va_G) (cA : Nat → ClassId) (A : Nat → Prop) (h_t h_t_dots h_t_cuts h_t_skips h_t_settings h_t_weights : Nat) (v_t_wide : Int) (v_t_high : Int) (v_t_frames : Int) (f_t_dots : Nat → Int) (x1 : Int) (N : Nat) (r : Int) : Prop := ∀ (pc : Nat) (H : Heap) (locs : List Loc) (ls : Array Slot), decode cX2_firstLike pc = .ok (.ireturn, 1) → va_P D vwCl (wX2_firstLike cA h_t h_t_dots h_t_cuts h_t_skips h_t_settings h_t_weights v_t_wide v_t_high v_t_frames f_t_dots) H → va_D A (wX2_firstLike cA h_t h_t_dots h_t_cuts h_t_skips h_t_settings h_t_weights v_t_wide v_t_high v_t_frames f_t_dots) → va_S A s.heap H locs → W p l e rmX2_firstLike s m args below meth c H locs 0 0 Q (F0 m pc ls [.int (iZ r)])
abbrev sX2_firstLike_24 (p : Program) (l : Launch) (e : Env) (s : State) (m : MethodId) (args : Array Value) (below : List Frame) (meth : Method) (c : Code) (Q : State → Prop) (G : ZG) (D : va_G) (cA : Nat → ClassId) (A : Nat → Prop) (h_t h_t_dots h_t_cuts h_t_skips h_t_settings h_t_weights : Nat) (v_t_wide : Int) (v_t_high : Int) (v_t_frames : Int) (f_t_dots : Nat → Int) (x1 : Int) (N : Nat) : Prop := ∀ (H : Heap) (locs : List Loc), va_P D vwCl (wX2_firstLike cA h_t h_t_dots h_t_cuts h_t_skips h_t_settings h_t_weights v_t_wide v_t_high v_t_frames f_t_dots) H → va_D A (wX2_firstLike cA h_t h_t_dots h_t_cuts h_t_skips h_t_settings h_t_weights v_t_wide v_t_high v_t_frames f_t_dots) → va_S A s.heap H locs → ∀ ls : Array Slot, lv_has ls 3 [(1, .int (iZ x1))] → W p l e rmX2_firstLike s m args below meth c H locs 0 0 Q (F0 m 24 ls [])
abbrev sX2_firstLike_2 (p : Program) (l : Launch) (e : Env) (s : State) (m : MethodId) (args : Array Value) (below : List Frame) (meth : Method) (c : Code) (Q : State → Prop) (G : ZG) (D : va_G) (cA : Nat → ClassId) (A : Nat → Prop) (h_t h_t_dots h_t_cuts h_t_skips h_t_settings h_t_weights : Nat) (v_t_wide : Int) (v_t_high : Int) (v_t_frames : Int) (f_t_dots : Nat → Int) (x1 : Int) (N : Nat) (i2 : Int) : Prop := ∀ (H : Heap) (locs : List Loc), va_P D vwCl (wX2_firstLike cA h_t h_t_dots h_t_cuts h_t_skips h_t_settings h_t_weights v_t_wide v_t_high v_t_frames f_t_dots) H → va_D A (wX2_firstLike cA h_t h_t_dots h_t_cuts h_t_skips h_t_settings h_t_weights v_t_wide v_t_high v_t_frames f_t_dots) → va_S A s.heap H locs → ∀ ls : Array Slot, lv_has ls 3 [(0, .ref h_t), (1, .int (iZ x1)), (2, .int (iZ i2))] → W p l e rmX2_firstLike s m args below meth c H locs 0 0 Q (F0 m 2 ls [])
set_option maxHeartbeats 4000000 in
set_option maxRecDepth 100000 in
theorem wX2_firstLike_b2 (p : Program) (l : Launch) (e : Env) (s : State) (m : MethodId) (args : Array Value) (below : List Frame) (meth : Method) (c : Code) (Q : State → Prop) (G : ZG) (D : va_G) (cA : Nat → ClassId) (A : Nat → Prop) (h_t h_t_dots h_t_cuts h_t_skips h_t_settings h_t_weights : Nat) (v_t_wide : Int) (v_t_high : Int) (v_t_frames : Int) (f_t_dots : Nat → Int) (x1 : Int) (N : Nat) (C : CallFix p m c cX2_firstLike 3 s args vX2_firstLike RX2) (hK : va_K D vwCl (zT cA) s) (hA : ∀ q, s.heap.size ≤ q → A q) (hZ : zSt G A s s.heap) (r : Int) (kr : kX2_firstLike p l e s m args below meth c Q G D cA A h_t h_t_dots h_t_cuts h_t_skips h_t_settings h_t_weights v_t_wide v_t_high v_t_frames f_t_dots x1 N r) (rec : Int → Option (Int)) (k : Option (Int)) (hrec : ∀ (i2 : Int), rec i2 = some r → sX2_firstLike_2 p l e s m args below meth c Q G D cA A h_t h_t_dots h_t_cuts h_t_skips h_t_settings h_t_weights v_t_wide v_t_high v_t_frames f_t_dots x1 N i2) (hk : k = some r → sX2_firstLike_24 p l e s m args below meth c Q G D cA A h_t h_t_dots h_t_cuts h_t_skips h_t_settings h_t_weights v_t_wide v_t_high v_t_frames f_t_dots x1 N) (i2 : Int) (h : fX2_firstLike_b2 N v_t_wide v_t_high f_t_dots x1 rec k i2 = some r) : sX2_firstLike_2 p l e s m args below meth c Q G D cA A h_t h_t_dots h_t_cuts h_t_skips h_t_settings h_t_weights v_t_wide v_t_high v_t_frames f_t_dots x1 N i2 := by
  obtain ⟨hx, hb, hml, hown, hts⟩ := id C
  have hq : ∀ w ∈ wAll, w.before args s = true := fun w h => hts w (List.mem_cons_of_mem _ h)
  intro H locs hP hD hS ls hl
  unfold fX2_firstLike_b2 at h
  refine lv_iload_n hx hb dX2_firstLike_2 rfl (lv_at hl 2 rfl) ?_
  refine lv_iload_n hx hb dX2_firstLike_3 rfl (lv_at hl 1 rfl) ?_
  refine z_icmp_ge (tgt := 24) hx hb dX2_firstLike_4 (by decide) (fun c1 => ?_) (fun c1 => ?_)
  · rw [if_neg c1] at h
    exact hk  h H locs hP hD hS ls (lv_sub hl [1] rfl)
  · rw [if_pos c1] at h
    refine lv_aload_n hx hb dX2_firstLike_7 rfl (lv_at hl 0 rfl) ?_
    refine lv_iload_n hx hb dX2_firstLike_8 rfl (lv_at hl 2 rfl) ?_
    refine lv_iload_n hx hb dX2_firstLike_9 rfl (lv_at hl 1 rfl) ?_
    obtain ⟨r2, e2, h⟩ := bd_some h
    refine z_callVi (G := G) (D := D) (cA := cA) (wc := (wX2_sameDots cA h_t h_t_dots h_t_cuts h_t_skips h_t_settings h_t_weights v_t_wide v_t_high v_t_frames f_t_dots)) (wr := []) (w1 := (wX2_sameDots cA h_t h_t_dots h_t_cuts h_t_skips h_t_settings h_t_weights v_t_wide v_t_high v_t_frames f_t_dots)) (ws' := (wX2_firstLike cA h_t h_t_dots h_t_cuts h_t_skips h_t_settings h_t_weights v_t_wide v_t_high v_t_frames f_t_dots)) (r := r2) (As := [.int (iZ i2), .int (iZ x1)]) C hK hA hZ hP hD hS [0, 1] [] [0, 1] rfl rfl rfl (by decide) (cX2_sameDots_m l G D cA h_t h_t_dots h_t_cuts h_t_skips h_t_settings h_t_weights v_t_wide v_t_high v_t_frames f_t_dots i2 x1 H.size N e2) (cwV 2 hts (gAllV q256 q257 q258 q24 q254) rfl rfl rfl (by decide +kernel) ⟨Nat.le_of_ble_eq_true rfl, Nat.le_of_ble_eq_true rfl⟩) 0 2 rfl rfl rfl rfl hl.1 rfl (Nat.le_of_ble_eq_true rfl) ⟨Nat.zero_le _, Nat.zero_le _⟩ dX2_firstLike_10 (fun H locs hP hD hS => ?_)
    refine z_if_eq (tgt := 18) hx hb dX2_firstLike_13 (by decide) (fun c3 => ?_) (fun c3 => ?_)
    · rw [if_pos c3] at h
      refine z_iinc (lv' := [(2, .int (iZ (i2 + 1))), (0, .ref h_t), (1, .int (iZ x1))]) hx hb dX2_firstLike_18 hl (k := 2) rfl (by decide) rfl (fun ls hl => ?_)
      refine lv_goto (tgt := 2) hx hb dX2_firstLike_21 (by decide) ?_
      exact hrec (i2 + 1) h H locs hP hD hS ls (lv_sub hl [1, 2, 0] rfl)
    · rw [if_neg c3] at h
      refine lv_iload_n hx hb dX2_firstLike_16 rfl (lv_at hl 2 rfl) ?_
      cases h
      exact kr _ _ _ _ dX2_firstLike_17 hP hD hS
theorem wX2_firstLike_L2 (p : Program) (l : Launch) (e : Env) (s : State) (m : MethodId) (args : Array Value) (below : List Frame) (meth : Method) (c : Code) (Q : State → Prop) (G : ZG) (D : va_G) (cA : Nat → ClassId) (A : Nat → Prop) (h_t h_t_dots h_t_cuts h_t_skips h_t_settings h_t_weights : Nat) (v_t_wide : Int) (v_t_high : Int) (v_t_frames : Int) (f_t_dots : Nat → Int) (x1 : Int) (N : Nat) (C : CallFix p m c cX2_firstLike 3 s args vX2_firstLike RX2) (hK : va_K D vwCl (zT cA) s) (hA : ∀ q, s.heap.size ≤ q → A q) (hZ : zSt G A s s.heap) (r : Int) (kr : kX2_firstLike p l e s m args below meth c Q G D cA A h_t h_t_dots h_t_cuts h_t_skips h_t_settings h_t_weights v_t_wide v_t_high v_t_frames f_t_dots x1 N r) (k : Option (Int)) (hk : k = some r → sX2_firstLike_24 p l e s m args below meth c Q G D cA A h_t h_t_dots h_t_cuts h_t_skips h_t_settings h_t_weights v_t_wide v_t_high v_t_frames f_t_dots x1 N) : ∀ (n : Nat) (i2 : Int), fX2_firstLike_L2 N v_t_wide v_t_high f_t_dots x1 k n i2 = some r → sX2_firstLike_2 p l e s m args below meth c Q G D cA A h_t h_t_dots h_t_cuts h_t_skips h_t_settings h_t_weights v_t_wide v_t_high v_t_frames f_t_dots x1 N i2 := by
  intro n
  induction n with
  | zero =>
    intro i2 h
    have h : none = some r := h
    cases h
  | succ n ih =>
    intro i2 h
    exact wX2_firstLike_b2 p l e s m args below meth c Q G D cA A h_t h_t_dots h_t_cuts h_t_skips h_t_settings h_t_weights v_t_wide v_t_high v_t_frames f_t_dots x1 N C hK hA hZ r kr (fX2_firstLike_L2 N v_t_wide v_t_high f_t_dots x1 k n) k ih hk i2 h
set_option maxHeartbeats 4000000 in
set_option maxRecDepth 100000 in
theorem wX2_firstLike_j24 (p : Program) (l : Launch) (e : Env) (s : State) (m : MethodId) (args : Array Value) (below : List Frame) (meth : Method) (c : Code) (Q : State → Prop) (G : ZG) (D : va_G) (cA : Nat → ClassId) (A : Nat → Prop) (h_t h_t_dots h_t_cuts h_t_skips h_t_settings h_t_weights : Nat) (v_t_wide : Int) (v_t_high : Int) (v_t_frames : Int) (f_t_dots : Nat → Int) (x1 : Int) (N : Nat) (C : CallFix p m c cX2_firstLike 3 s args vX2_firstLike RX2) (hK : va_K D vwCl (zT cA) s) (hA : ∀ q, s.heap.size ≤ q → A q) (hZ : zSt G A s s.heap) (r : Int) (kr : kX2_firstLike p l e s m args below meth c Q G D cA A h_t h_t_dots h_t_cuts h_t_skips h_t_settings h_t_weights v_t_wide v_t_high v_t_frames f_t_dots x1 N r) (h : fX2_firstLike_j24 N v_t_wide v_t_high f_t_dots x1 = some r) : sX2_firstLike_24 p l e s m args below meth c Q G D cA A h_t h_t_dots h_t_cuts h_t_skips h_t_settings h_t_weights v_t_wide v_t_high v_t_frames f_t_dots x1 N := by
  obtain ⟨hx, hb, hml, hown, hts⟩ := id C
  have hq : ∀ w ∈ wAll, w.before args s = true := fun w h => hts w (List.mem_cons_of_mem _ h)
  intro H locs hP hD hS ls hl
  unfold fX2_firstLike_j24 at h
  refine lv_iload_n hx hb dX2_firstLike_24 rfl (lv_at hl 0 rfl) ?_
  cases h
  exact kr _ _ _ _ dX2_firstLike_25 hP hD hS
set_option maxHeartbeats 4000000 in
set_option maxRecDepth 100000 in
theorem wX2_firstLike_E (p : Program) (l : Launch) (e : Env) (s : State) (m : MethodId) (args : Array Value) (below : List Frame) (meth : Method) (c : Code) (Q : State → Prop) (G : ZG) (D : va_G) (cA : Nat → ClassId) (A : Nat → Prop) (h_t h_t_dots h_t_cuts h_t_skips h_t_settings h_t_weights : Nat) (v_t_wide : Int) (v_t_high : Int) (v_t_frames : Int) (f_t_dots : Nat → Int) (x1 : Int) (N : Nat) (C : CallFix p m c cX2_firstLike 3 s args vX2_firstLike RX2) (hK : va_K D vwCl (zT cA) s) (hA : ∀ q, s.heap.size ≤ q → A q) (hZ : zSt G A s s.heap) (r : Int) (kr : kX2_firstLike p l e s m args below meth c Q G D cA A h_t h_t_dots h_t_cuts h_t_skips h_t_settings h_t_weights v_t_wide v_t_high v_t_frames f_t_dots x1 N r) (h : fX2_firstLike N v_t_wide v_t_high f_t_dots x1 = some r) (H : Heap) (locs : List Loc) (hP : va_P D vwCl (wX2_firstLike cA h_t h_t_dots h_t_cuts h_t_skips h_t_settings h_t_weights v_t_wide v_t_high v_t_frames f_t_dots) H) (hD : va_D A (wX2_firstLike cA h_t h_t_dots h_t_cuts h_t_skips h_t_settings h_t_weights v_t_wide v_t_high v_t_frames f_t_dots)) (hS : va_S A s.heap H locs) (ls : Array Slot) (hl : lv_has ls 3 [(0, .ref h_t), (1, .int (iZ x1))]) : W p l e rmX2_firstLike s m args below meth c H locs 0 0 Q (F0 m 0 ls []) := by
  obtain ⟨hx, hb, hml, hown, hts⟩ := id C
  have hq : ∀ w ∈ wAll, w.before args s = true := fun w h => hts w (List.mem_cons_of_mem _ h)
  unfold fX2_firstLike at h
  refine z_iconst hx hb dX2_firstLike_0 ?_
  refine lv_istore_n (lv' := [(2, .int (iZ 0)), (0, .ref h_t), (1, .int (iZ x1))]) hx hb dX2_firstLike_1 rfl hl (by decide) rfl (fun ls hl => ?_)
  exact wX2_firstLike_L2 p l e s m args below meth c Q G D cA A h_t h_t_dots h_t_cuts h_t_skips h_t_settings h_t_weights v_t_wide v_t_high v_t_frames f_t_dots x1 N C hK hA hZ r kr (fX2_firstLike_j24 N v_t_wide v_t_high f_t_dots x1) (fun h9 => wX2_firstLike_j24 p l e s m args below meth c Q G D cA A h_t h_t_dots h_t_cuts h_t_skips h_t_settings h_t_weights v_t_wide v_t_high v_t_frames f_t_dots x1 N C hK hA hZ r kr  h9) N 0 h H locs hP hD hS ls (lv_sub hl [1, 2, 0] rfl)
set_option maxHeartbeats 4000000 in
set_option maxRecDepth 100000 in
theorem cX2_firstLike_m (l : Launch) (G : ZG) (D : va_G) (cA : Nat → ClassId) (h_t h_t_dots h_t_cuts h_t_skips h_t_settings h_t_weights : Nat) (v_t_wide : Int) (v_t_high : Int) (v_t_frames : Int) (f_t_dots : Nat → Int) (x1 : Int) (sz N : Nat) {r : Int} (hF : fX2_firstLike N v_t_wide v_t_high f_t_dots x1 = some r) : zMi l yX2_firstLike vX2_firstLike rmX2_firstLike G D cA [.ref h_t, .int (iZ x1)] (wX2_firstLike cA h_t h_t_dots h_t_cuts h_t_skips h_t_settings h_t_weights v_t_wide v_t_high v_t_frames f_t_dots) (wX2_firstLike cA h_t h_t_dots h_t_cuts h_t_skips h_t_settings h_t_weights v_t_wide v_t_high v_t_frames f_t_dots) r sz := by
  refine Met.ofW (cc := cX2_firstLike) (maxL := 3) (ret := (some .int)) (by decide) rfl ?_
  intro p e s m args below meth c s₁ B hml hv
  obtain ⟨rfl, hsz, hP, hK, hD0, hZ⟩ := hv
  subst hsz
  have hlocks := B.notSynchronized
  have hl := lv_entry ([.ref h_t, .int (iZ x1)]) (n := 3) (Nat.le_of_ble_eq_true rfl)
  rw [lg_entry_eq]
  generalize (lg_sl ([.ref h_t, .int (iZ x1)]) ++ List.replicate (3 - (lg_sl ([.ref h_t, .int (iZ x1)])).length) Slot.unset).toArray = ls at hl ⊢
  exact wX2_firstLike_E p l e s m _ below meth c _ G D cA _ h_t h_t_dots h_t_cuts h_t_skips h_t_settings h_t_weights v_t_wide v_t_high v_t_frames f_t_dots x1 N ⟨B.exec, B.bytes, hml, findClass_of_methodNamed B.named, atoms_spec (ws := vX2_firstLike) B.pre⟩ hK (fun q h => Or.inr h) hZ r (fun pc H locs ls hd hP hD hS => W.iret B.exec B.bytes B.returns (fun t ht hW => ⟨⟨_, (), rfl, rfl, by rw [ht]; exact hP, va_K.moved hW.alike hK, hD⟩, hS.F ht⟩) hS.2.2 hd) hF s.heap [] hP (hD0.self (sz := s.heap.size)) va_S.rf ls hl

/-! ===== java/lang/String.coder()B ===== -/
abbrev rmJ0_coder_7d493 : Room := { frames := 0, cells := 0, slots := 0, locals := 0 }
abbrev wJ0_coder_7d493 (cA : Nat → ClassId) : va_W := []
def fJ0_coder_7d493 (N : Nat) (z0 : Nat) : Option (Int) := (if iZ 1 = iZ 0 then (some 1) else (some 0))
abbrev kJ0_coder_7d493 (p : Program) (l : Launch) (e : Env) (s : State) (m : MethodId) (args : Array Value) (below : List Frame) (meth : Method) (c : Code) (Q : State → Prop) (G : ZG) (D : va_G) (cA : Nat → ClassId) (A : Nat → Prop) (z0 : Nat) (N : Nat) (r : Int) : Prop := ∀ (pc : Nat) (H : Heap) (locs : List Loc) (ls : Array Slot), decode cJ0_coder_7d493 pc = .ok (.ireturn, 1) → narrow .byte (.int (iZ r)) = .int (iZ r) → va_P D vwCl (wJ0_coder_7d493 cA ) H → va_D A (wJ0_coder_7d493 cA ) → va_S A s.heap H locs → W p l e rmJ0_coder_7d493 s m args below meth c H locs 0 0 Q (F0 m pc ls [.int (iZ r)])
set_option maxHeartbeats 4000000 in
set_option maxRecDepth 100000 in
theorem wJ0_coder_7d493_E (p : Program) (l : Launch) (e : Env) (s : State) (m : MethodId) (args : Array Value) (below : List Frame) (meth : Method) (c : Code) (Q : State → Prop) (G : ZG) (D : va_G) (cA : Nat → ClassId) (A : Nat → Prop) (z0 : Nat) (N : Nat) (C : CallFix p m c cJ0_coder_7d493 1 s args vJ0_coder_7d493 RJ0) (hK : va_K D vwCl (zT cA) s) (hA : ∀ q, s.heap.size ≤ q → A q) (hZ : zSt G A s s.heap) (hz0 : z0 < 13) (r : Int) (kr : kJ0_coder_7d493 p l e s m args below meth c Q G D cA A z0 N r) (h : fJ0_coder_7d493 N z0 = some r) (H : Heap) (locs : List Loc) (hP : va_P D vwCl (wJ0_coder_7d493 cA ) H) (hD : va_D A (wJ0_coder_7d493 cA )) (hS : va_S A s.heap H locs) (ls : Array Slot) (hl : lv_has ls 1 [(0, .ref (G.2.2.2.2.1 z0))]) : W p l e rmJ0_coder_7d493 s m args below meth c H locs 0 0 Q (F0 m 0 ls []) := by
  obtain ⟨hx, hb, hml, hown, hts⟩ := id C
  have hq : ∀ w ∈ wAll, w.before args s = true := fun w h => hts w (List.mem_cons_of_mem _ h)
  unfold fJ0_coder_7d493 at h
  refine va_gets (v := .int (iZ 1)) hx hb hZ.2.2.2.2.2.2.2.1 hS hown (hq _ q356) (fun _ h9 => h9) dJ0_coder_7d493_0 ?_
  refine z_if_eq (tgt := 13) hx hb dJ0_coder_7d493_3 (by decide) (fun c1 => ?_) (fun c1 => ?_)
  · rw [if_pos c1] at h
    refine z_iconst hx hb dJ0_coder_7d493_13 ?_
    cases h
    exact kr _ _ _ _ dJ0_coder_7d493_14 (show narrow .byte (.int (iZ 1)) = .int (iZ 1) from by decide) hP hD hS
  · rw [if_neg c1] at h
    refine lv_aload_n hx hb dJ0_coder_7d493_6 rfl (lv_at hl 0 rfl) ?_
    refine vk_getf (v := .int (iZ 0)) hx hb (hZ.2.1.2.2.2.2.1 z0 hz0).2.1 hS hown (hq _ q357) (fun _ h9 => h9) dJ0_coder_7d493_7 ?_
    refine lv_goto (tgt := 14) hx hb dJ0_coder_7d493_10 (by decide) ?_
    cases h
    exact kr _ _ _ _ dJ0_coder_7d493_14 (show narrow .byte (.int (iZ 0)) = .int (iZ 0) from by decide) hP hD hS
set_option maxHeartbeats 4000000 in
set_option maxRecDepth 100000 in
theorem cJ0_coder_7d493_m (l : Launch) (G : ZG) (D : va_G) (cA : Nat → ClassId) (z0 : Nat) (sz N : Nat) (hz0 : z0 < 13) {r : Int} (hF : fJ0_coder_7d493 N z0 = some r) : zMi l yJ0_coder_7d493 vJ0_coder_7d493 rmJ0_coder_7d493 G D cA [.ref (G.2.2.2.2.1 z0)] (wJ0_coder_7d493 cA ) (wJ0_coder_7d493 cA ) r sz := by
  refine Met.ofW (cc := cJ0_coder_7d493) (maxL := 1) (ret := (some .byte)) (by decide) rfl ?_
  intro p e s m args below meth c s₁ B hml hv
  obtain ⟨rfl, hsz, hP, hK, hD0, hZ⟩ := hv
  subst hsz
  have hlocks := B.notSynchronized
  have hl := lv_entry ([.ref (G.2.2.2.2.1 z0)]) (n := 1) (Nat.le_of_ble_eq_true rfl)
  rw [lg_entry_eq]
  generalize (lg_sl ([.ref (G.2.2.2.2.1 z0)]) ++ List.replicate (1 - (lg_sl ([.ref (G.2.2.2.2.1 z0)])).length) Slot.unset).toArray = ls at hl ⊢
  exact wJ0_coder_7d493_E p l e s m _ below meth c _ G D cA _ z0 N ⟨B.exec, B.bytes, hml, findClass_of_methodNamed B.named, atoms_spec (ws := vJ0_coder_7d493) B.pre⟩ hK (fun q h => Or.inr h) hZ hz0 r (fun pc H locs ls hd hnar hP hD hS => W.zret B.exec B.bytes B.returns hnar (fun t ht hW => ⟨⟨_, (), rfl, rfl, by rw [ht]; exact hP, va_K.moved hW.alike hK, hD⟩, hS.F ht⟩) hS.2.2 hd) hF s.heap [] hP (hD0.self (sz := s.heap.size)) va_S.rf ls hl

/-! ===== java/lang/String.length()I ===== -/
abbrev rmJ0_length_8abf5 : Room := { frames := 1, cells := 0, slots := 0, locals := 20 }
abbrev wJ0_length_8abf5 (cA : Nat → ClassId) : va_W := []
def fJ0_length_8abf5 (N : Nat) (z0 : Nat) : Option (Int) := ((fJ0_coder_7d493 N z0).bind fun r1 => (some (rZ (lenZ z0) r1)))
abbrev kJ0_length_8abf5 (p : Program) (l : Launch) (e : Env) (s : State) (m : MethodId) (args : Array Value) (below : List Frame) (meth : Method) (c : Code) (Q : State → Prop) (G : ZG) (D : va_G) (cA : Nat → ClassId) (A : Nat → Prop) (z0 : Nat) (N : Nat) (r : Int) : Prop := ∀ (pc : Nat) (H : Heap) (locs : List Loc) (ls : Array Slot), decode cJ0_length_8abf5 pc = .ok (.ireturn, 1) → va_P D vwCl (wJ0_length_8abf5 cA ) H → va_D A (wJ0_length_8abf5 cA ) → va_S A s.heap H locs → W p l e rmJ0_length_8abf5 s m args below meth c H locs 0 0 Q (F0 m pc ls [.int (iZ r)])
set_option maxHeartbeats 4000000 in
set_option maxRecDepth 100000 in
theorem wJ0_length_8abf5_E (p : Program) (l : Launch) (e : Env) (s : State) (m : MethodId) (args : Array Value) (below : List Frame) (meth : Method) (c : Code) (Q : State → Prop) (G : ZG) (D : va_G) (cA : Nat → ClassId) (A : Nat → Prop) (z0 : Nat) (N : Nat) (C : CallFix p m c cJ0_length_8abf5 1 s args vJ0_length_8abf5 RJ0) (hK : va_K D vwCl (zT cA) s) (hA : ∀ q, s.heap.size ≤ q → A q) (hZ : zSt G A s s.heap) (hz0 : z0 < 13) (r : Int) (kr : kJ0_length_8abf5 p l e s m args below meth c Q G D cA A z0 N r) (h : fJ0_length_8abf5 N z0 = some r) (H : Heap) (locs : List Loc) (hP : va_P D vwCl (wJ0_length_8abf5 cA ) H) (hD : va_D A (wJ0_length_8abf5 cA )) (hS : va_S A s.heap H locs) (ls : Array Slot) (hl : lv_has ls 1 [(0, .ref (G.2.2.2.2.1 z0))]) : W p l e rmJ0_length_8abf5 s m args below meth c H locs 0 0 Q (F0 m 0 ls []) := by
  obtain ⟨hx, hb, hml, hown, hts⟩ := id C
  have hq : ∀ w ∈ wAll, w.before args s = true := fun w h => hts w (List.mem_cons_of_mem _ h)
  unfold fJ0_length_8abf5 at h
  refine lv_aload_n hx hb dJ0_length_8abf5_0 rfl (lv_at hl 0 rfl) ?_
  refine vk_getf (v := .ref (G.2.2.2.2.2 z0)) hx hb (hZ.2.1.2.2.2.2.1 z0 hz0).2.2.1 hS hown (hq _ q359) (fun _ h9 => h9) dJ0_length_8abf5_1 ?_
  refine z_blen hx hb hZ hz0 hS dJ0_length_8abf5_4 ?_
  refine lv_aload_n hx hb dJ0_length_8abf5_5 rfl (lv_at hl 0 rfl) ?_
  obtain ⟨r1, e1, h⟩ := bd_some h
  refine z_callUi (G := G) (D := D) (cA := cA) (wc := (wJ0_coder_7d493 cA )) (wr := []) (w1 := (wJ0_coder_7d493 cA )) (ws' := (wJ0_length_8abf5 cA )) (r := r1) (As := []) C hK hA hZ hP hD hS [] [] [] rfl rfl rfl (by decide) (cJ0_coder_7d493_m l G D cA z0 H.size N hz0 e1) (cwV 0 hts (gAllV q360 q361 q362 q363 q355) rfl rfl rfl (by decide +kernel) ⟨Nat.le_of_ble_eq_true rfl, Nat.le_of_ble_eq_true rfl⟩) (vk_recv hZ.2.1.2.2.2.2 hz0 hS) rfl hl.1 rfl (Nat.le_of_ble_eq_true rfl) ⟨Nat.zero_le _, Nat.zero_le _⟩ dJ0_length_8abf5_6 (fun H locs hP hD hS => ?_)
  refine z_ishr hx hb dJ0_length_8abf5_9 ?_
  cases h
  exact kr _ _ _ _ dJ0_length_8abf5_10 hP hD hS
set_option maxHeartbeats 4000000 in
set_option maxRecDepth 100000 in
theorem cJ0_length_8abf5_m (l : Launch) (G : ZG) (D : va_G) (cA : Nat → ClassId) (z0 : Nat) (sz N : Nat) (hz0 : z0 < 13) {r : Int} (hF : fJ0_length_8abf5 N z0 = some r) : zMi l yJ0_length_8abf5 vJ0_length_8abf5 rmJ0_length_8abf5 G D cA [.ref (G.2.2.2.2.1 z0)] (wJ0_length_8abf5 cA ) (wJ0_length_8abf5 cA ) r sz := by
  refine Met.ofW (cc := cJ0_length_8abf5) (maxL := 1) (ret := (some .int)) (by decide) rfl ?_
  intro p e s m args below meth c s₁ B hml hv
  obtain ⟨rfl, hsz, hP, hK, hD0, hZ⟩ := hv
  subst hsz
  have hlocks := B.notSynchronized
  have hl := lv_entry ([.ref (G.2.2.2.2.1 z0)]) (n := 1) (Nat.le_of_ble_eq_true rfl)
  rw [lg_entry_eq]
  generalize (lg_sl ([.ref (G.2.2.2.2.1 z0)]) ++ List.replicate (1 - (lg_sl ([.ref (G.2.2.2.2.1 z0)])).length) Slot.unset).toArray = ls at hl ⊢
  exact wJ0_length_8abf5_E p l e s m _ below meth c _ G D cA _ z0 N ⟨B.exec, B.bytes, hml, findClass_of_methodNamed B.named, atoms_spec (ws := vJ0_length_8abf5) B.pre⟩ hK (fun q h => Or.inr h) hZ hz0 r (fun pc H locs ls hd hP hD hS => W.iret B.exec B.bytes B.returns (fun t ht hW => ⟨⟨_, (), rfl, rfl, by rw [ht]; exact hP, va_K.moved hW.alike hK, hD⟩, hS.F ht⟩) hS.2.2 hd) hF s.heap [] hP (hD0.self (sz := s.heap.size)) va_S.rf ls hl

/-! ===== java/lang/String.isLatin1()Z ===== -/
abbrev rmJ0_isLatin1_aae02 : Room := { frames := 0, cells := 0, slots := 0, locals := 0 }
abbrev wJ0_isLatin1_aae02 (cA : Nat → ClassId) : va_W := []
def fJ0_isLatin1_aae02 (N : Nat) (z0 : Nat) : Option (Int) := (if iZ 1 = iZ 0 then (some 0) else (if iZ 0 = iZ 0 then (some 1) else (some 0)))
abbrev kJ0_isLatin1_aae02 (p : Program) (l : Launch) (e : Env) (s : State) (m : MethodId) (args : Array Value) (below : List Frame) (meth : Method) (c : Code) (Q : State → Prop) (G : ZG) (D : va_G) (cA : Nat → ClassId) (A : Nat → Prop) (z0 : Nat) (N : Nat) (r : Int) : Prop := ∀ (pc : Nat) (H : Heap) (locs : List Loc) (ls : Array Slot), decode cJ0_isLatin1_aae02 pc = .ok (.ireturn, 1) → narrow .boolean (.int (iZ r)) = .int (iZ r) → va_P D vwCl (wJ0_isLatin1_aae02 cA ) H → va_D A (wJ0_isLatin1_aae02 cA ) → va_S A s.heap H locs → W p l e rmJ0_isLatin1_aae02 s m args below meth c H locs 0 0 Q (F0 m pc ls [.int (iZ r)])
set_option maxHeartbeats 4000000 in
set_option maxRecDepth 100000 in
theorem wJ0_isLatin1_aae02_E (p : Program) (l : Launch) (e : Env) (s : State) (m : MethodId) (args : Array Value) (below : List Frame) (meth : Method) (c : Code) (Q : State → Prop) (G : ZG) (D : va_G) (cA : Nat → ClassId) (A : Nat → Prop) (z0 : Nat) (N : Nat) (C : CallFix p m c cJ0_isLatin1_aae02 1 s args vJ0_isLatin1_aae02 RJ0) (hK : va_K D vwCl (zT cA) s) (hA : ∀ q, s.heap.size ≤ q → A q) (hZ : zSt G A s s.heap) (hz0 : z0 < 13) (r : Int) (kr : kJ0_isLatin1_aae02 p l e s m args below meth c Q G D cA A z0 N r) (h : fJ0_isLatin1_aae02 N z0 = some r) (H : Heap) (locs : List Loc) (hP : va_P D vwCl (wJ0_isLatin1_aae02 cA ) H) (hD : va_D A (wJ0_isLatin1_aae02 cA )) (hS : va_S A s.heap H locs) (ls : Array Slot) (hl : lv_has ls 1 [(0, .ref (G.2.2.2.2.1 z0))]) : W p l e rmJ0_isLatin1_aae02 s m args below meth c H locs 0 0 Q (F0 m 0 ls []) := by
  obtain ⟨hx, hb, hml, hown, hts⟩ := id C
  have hq : ∀ w ∈ wAll, w.before args s = true := fun w h => hts w (List.mem_cons_of_mem _ h)
  unfold fJ0_isLatin1_aae02 at h
  refine va_gets (v := .int (iZ 1)) hx hb hZ.2.2.2.2.2.2.2.1 hS hown (hq _ q356) (fun _ h9 => h9) dJ0_isLatin1_aae02_0 ?_
  refine z_if_eq (tgt := 17) hx hb dJ0_isLatin1_aae02_3 (by decide) (fun c1 => ?_) (fun c1 => ?_)
  · rw [if_pos c1] at h
    refine z_iconst hx hb dJ0_isLatin1_aae02_17 ?_
    cases h
    exact kr _ _ _ _ dJ0_isLatin1_aae02_18 (zb_nar (Or.inl rfl)) hP hD hS
  · rw [if_neg c1] at h
    refine lv_aload_n hx hb dJ0_isLatin1_aae02_6 rfl (lv_at hl 0 rfl) ?_
    refine vk_getf (v := .int (iZ 0)) hx hb (hZ.2.1.2.2.2.2.1 z0 hz0).2.1 hS hown (hq _ q357) (fun _ h9 => h9) dJ0_isLatin1_aae02_7 ?_
    refine z_if_ne (tgt := 17) hx hb dJ0_isLatin1_aae02_10 (by decide) (fun c2 => ?_) (fun c2 => ?_)
    · rw [if_neg c2] at h
      refine z_iconst hx hb dJ0_isLatin1_aae02_17 ?_
      cases h
      exact kr _ _ _ _ dJ0_isLatin1_aae02_18 (zb_nar (Or.inl rfl)) hP hD hS
    · rw [if_pos c2] at h
      refine z_iconst hx hb dJ0_isLatin1_aae02_13 ?_
      refine lv_goto (tgt := 18) hx hb dJ0_isLatin1_aae02_14 (by decide) ?_
      cases h
      exact kr _ _ _ _ dJ0_isLatin1_aae02_18 (zb_nar (Or.inr rfl)) hP hD hS
set_option maxHeartbeats 4000000 in
set_option maxRecDepth 100000 in
theorem cJ0_isLatin1_aae02_m (l : Launch) (G : ZG) (D : va_G) (cA : Nat → ClassId) (z0 : Nat) (sz N : Nat) (hz0 : z0 < 13) {r : Int} (hF : fJ0_isLatin1_aae02 N z0 = some r) : zMi l yJ0_isLatin1_aae02 vJ0_isLatin1_aae02 rmJ0_isLatin1_aae02 G D cA [.ref (G.2.2.2.2.1 z0)] (wJ0_isLatin1_aae02 cA ) (wJ0_isLatin1_aae02 cA ) r sz := by
  refine Met.ofW (cc := cJ0_isLatin1_aae02) (maxL := 1) (ret := (some .boolean)) (by decide) rfl ?_
  intro p e s m args below meth c s₁ B hml hv
  obtain ⟨rfl, hsz, hP, hK, hD0, hZ⟩ := hv
  subst hsz
  have hlocks := B.notSynchronized
  have hl := lv_entry ([.ref (G.2.2.2.2.1 z0)]) (n := 1) (Nat.le_of_ble_eq_true rfl)
  rw [lg_entry_eq]
  generalize (lg_sl ([.ref (G.2.2.2.2.1 z0)]) ++ List.replicate (1 - (lg_sl ([.ref (G.2.2.2.2.1 z0)])).length) Slot.unset).toArray = ls at hl ⊢
  exact wJ0_isLatin1_aae02_E p l e s m _ below meth c _ G D cA _ z0 N ⟨B.exec, B.bytes, hml, findClass_of_methodNamed B.named, atoms_spec (ws := vJ0_isLatin1_aae02) B.pre⟩ hK (fun q h => Or.inr h) hZ hz0 r (fun pc H locs ls hd hnar hP hD hS => W.zret B.exec B.bytes B.returns hnar (fun t ht hW => ⟨⟨_, (), rfl, rfl, by rw [ht]; exact hP, va_K.moved hW.alike hK, hD⟩, hS.F ht⟩) hS.2.2 hd) hF s.heap [] hP (hD0.self (sz := s.heap.size)) va_S.rf ls hl

/-! ===== jdk/internal/util/Preconditions.checkIndex(IILjava/util/function/BiFunction;)I ===== -/
abbrev rmJ3_checkIndex_8e157 : Room := { frames := 0, cells := 0, slots := 0, locals := 0 }
abbrev wJ3_checkIndex_8e157 (cA : Nat → ClassId) : va_W := []
def fJ3_checkIndex_8e157 (N : Nat) (x1 : Int) (x2 : Int) : Option (Int) := (if iZ x1 < iZ 0 then none else (if iZ x1 < iZ x2 then (some x1) else none))
abbrev kJ3_checkIndex_8e157 (p : Program) (l : Launch) (e : Env) (s : State) (m : MethodId) (args : Array Value) (below : List Frame) (meth : Method) (c : Code) (Q : State → Prop) (G : ZG) (D : va_G) (cA : Nat → ClassId) (A : Nat → Prop) (x1 : Int) (x2 : Int) (o3 : Option Nat) (N : Nat) (r : Int) : Prop := ∀ (pc : Nat) (H : Heap) (locs : List Loc) (ls : Array Slot), decode cJ3_checkIndex_8e157 pc = .ok (.ireturn, 1) → va_P D vwCl (wJ3_checkIndex_8e157 cA ) H → va_D A (wJ3_checkIndex_8e157 cA ) → va_S A s.heap H locs → W p l e rmJ3_checkIndex_8e157 s m args below meth c H locs 0 0 Q (F0 m pc ls [.int (iZ r)])
set_option maxHeartbeats 4000000 in
set_option maxRecDepth 100000 in
theorem wJ3_checkIndex_8e157_E (p : Program) (l : Launch) (e : Env) (s : State) (m : MethodId) (args : Array Value) (below : List Frame) (meth : Method) (c : Code) (Q : State → Prop) (G : ZG) (D : va_G) (cA : Nat → ClassId) (A : Nat → Prop) (x1 : Int) (x2 : Int) (o3 : Option Nat) (N : Nat) (C : CallFix p m c cJ3_checkIndex_8e157 3 s args vJ3_checkIndex_8e157 RJ3) (hK : va_K D vwCl (zT cA) s) (hA : ∀ q, s.heap.size ≤ q → A q) (hZ : zSt G A s s.heap) (r : Int) (kr : kJ3_checkIndex_8e157 p l e s m args below meth c Q G D cA A x1 x2 o3 N r) (h : fJ3_checkIndex_8e157 N x1 x2 = some r) (H : Heap) (locs : List Loc) (hP : va_P D vwCl (wJ3_checkIndex_8e157 cA ) H) (hD : va_D A (wJ3_checkIndex_8e157 cA )) (hS : va_S A s.heap H locs) (ls : Array Slot) (hl : lv_has ls 3 [(0, .int (iZ x1)), (1, .int (iZ x2)), (2, va_rf o3)]) : W p l e rmJ3_checkIndex_8e157 s m args below meth c H locs 0 0 Q (F0 m 0 ls []) := by
  obtain ⟨hx, hb, hml, hown, hts⟩ := id C
  have hq : ∀ w ∈ wAll, w.before args s = true := fun w h => hts w (List.mem_cons_of_mem _ h)
  unfold fJ3_checkIndex_8e157 at h
  refine lv_iload_n hx hb dJ3_checkIndex_8e157_0 rfl (lv_at hl 0 rfl) ?_
  refine z_if_lt (tgt := 9) hx hb dJ3_checkIndex_8e157_1 (by decide) (fun c1 => ?_) (fun c1 => ?_)
  · rw [if_pos c1] at h
    cases h
  · rw [if_neg c1] at h
    refine lv_iload_n hx hb dJ3_checkIndex_8e157_4 rfl (lv_at hl 0 rfl) ?_
    refine lv_iload_n hx hb dJ3_checkIndex_8e157_5 rfl (lv_at hl 1 rfl) ?_
    refine z_icmp_lt (tgt := 16) hx hb dJ3_checkIndex_8e157_6 (by decide) (fun c2 => ?_) (fun c2 => ?_)
    · rw [if_pos c2] at h
      refine lv_iload_n hx hb dJ3_checkIndex_8e157_16 rfl (lv_at hl 0 rfl) ?_
      cases h
      exact kr _ _ _ _ dJ3_checkIndex_8e157_17 hP hD hS
    · rw [if_neg c2] at h
      cases h
set_option maxHeartbeats 4000000 in
set_option maxRecDepth 100000 in
theorem cJ3_checkIndex_8e157_m (l : Launch) (G : ZG) (D : va_G) (cA : Nat → ClassId) (x1 : Int) (x2 : Int) (o3 : Option Nat) (sz N : Nat) {r : Int} (hF : fJ3_checkIndex_8e157 N x1 x2 = some r) : zMi l yJ3_checkIndex_8e157 vJ3_checkIndex_8e157 rmJ3_checkIndex_8e157 G D cA [.int (iZ x1), .int (iZ x2), va_rf o3] (wJ3_checkIndex_8e157 cA ) (wJ3_checkIndex_8e157 cA ) r sz := by
  cases o3 with
  | none =>
    refine Met.ofW (cc := cJ3_checkIndex_8e157) (maxL := 3) (ret := (some .int)) (by decide) rfl ?_
    intro p e s m args below meth c s₁ B hml hv
    obtain ⟨rfl, hsz, hP, hK, hD0, hZ⟩ := hv
    subst hsz
    have hlocks := B.notSynchronized
    have hl := lv_entry ([.int (iZ x1), .int (iZ x2), va_rf none]) (n := 3) (Nat.le_of_ble_eq_true rfl)
    rw [lg_entry_eq]
    generalize (lg_sl ([.int (iZ x1), .int (iZ x2), va_rf none]) ++ List.replicate (3 - (lg_sl ([.int (iZ x1), .int (iZ x2), va_rf none])).length) Slot.unset).toArray = ls at hl ⊢
    exact wJ3_checkIndex_8e157_E p l e s m _ below meth c _ G D cA _ x1 x2 none N ⟨B.exec, B.bytes, hml, findClass_of_methodNamed B.named, atoms_spec (ws := vJ3_checkIndex_8e157) B.pre⟩ hK (fun q h => Or.inr h) hZ r (fun pc H locs ls hd hP hD hS => W.iret B.exec B.bytes B.returns (fun t ht hW => ⟨⟨_, (), rfl, rfl, by rw [ht]; exact hP, va_K.moved hW.alike hK, hD⟩, hS.F ht⟩) hS.2.2 hd) hF s.heap [] hP (hD0.self (sz := s.heap.size)) va_S.rf ls hl
  | some a9 =>
    refine Met.ofW (cc := cJ3_checkIndex_8e157) (maxL := 3) (ret := (some .int)) (by decide) rfl ?_
    intro p e s m args below meth c s₁ B hml hv
    obtain ⟨rfl, hsz, hP, hK, hD0, hZ⟩ := hv
    subst hsz
    have hlocks := B.notSynchronized
    have hl := lv_entry ([.int (iZ x1), .int (iZ x2), va_rf (some a9)]) (n := 3) (Nat.le_of_ble_eq_true rfl)
    rw [lg_entry_eq]
    generalize (lg_sl ([.int (iZ x1), .int (iZ x2), va_rf (some a9)]) ++ List.replicate (3 - (lg_sl ([.int (iZ x1), .int (iZ x2), va_rf (some a9)])).length) Slot.unset).toArray = ls at hl ⊢
    exact wJ3_checkIndex_8e157_E p l e s m _ below meth c _ G D cA _ x1 x2 (some a9) N ⟨B.exec, B.bytes, hml, findClass_of_methodNamed B.named, atoms_spec (ws := vJ3_checkIndex_8e157) B.pre⟩ hK (fun q h => Or.inr h) hZ r (fun pc H locs ls hd hP hD hS => W.iret B.exec B.bytes B.returns (fun t ht hW => ⟨⟨_, (), rfl, rfl, by rw [ht]; exact hP, va_K.moved hW.alike hK, hD⟩, hS.F ht⟩) hS.2.2 hd) hF s.heap [] hP (hD0.self (sz := s.heap.size)) va_S.rf ls hl

/-! ===== java/lang/String.checkIndex(II)V ===== -/
abbrev rmJ0_checkIndex_df160 : Room := { frames := 1, cells := 0, slots := 0, locals := 22 }
abbrev wJ0_checkIndex_df160 (cA : Nat → ClassId) : va_W := []
def fJ0_checkIndex_df160 (N : Nat) (x1 : Int) (x2 : Int) : Option (Unit) := ((fJ3_checkIndex_8e157 N x1 x2).bind fun r1 => (some (())))
abbrev kJ0_checkIndex_df160 (p : Program) (l : Launch) (e : Env) (s : State) (m : MethodId) (args : Array Value) (below : List Frame) (meth : Method) (c : Code) (Q : State → Prop) (G : ZG) (D : va_G) (cA : Nat → ClassId) (A : Nat → Prop) (x1 : Int) (x2 : Int) (N : Nat) (r : Unit) : Prop := ∀ (pc : Nat) (H : Heap) (locs : List Loc) (ls : Array Slot), decode cJ0_checkIndex_df160 pc = .ok (.return_, 1) → va_P D vwCl (wJ0_checkIndex_df160 cA ) H → va_D A (wJ0_checkIndex_df160 cA ) → va_S A s.heap H locs → W p l e rmJ0_checkIndex_df160 s m args below meth c H locs 0 0 Q (F0 m pc ls [])
set_option maxHeartbeats 4000000 in
set_option maxRecDepth 100000 in
theorem wJ0_checkIndex_df160_E (p : Program) (l : Launch) (e : Env) (s : State) (m : MethodId) (args : Array Value) (below : List Frame) (meth : Method) (c : Code) (Q : State → Prop) (G : ZG) (D : va_G) (cA : Nat → ClassId) (A : Nat → Prop) (x1 : Int) (x2 : Int) (N : Nat) (C : CallFix p m c cJ0_checkIndex_df160 2 s args vJ0_checkIndex_df160 RJ0) (hK : va_K D vwCl (zT cA) s) (hA : ∀ q, s.heap.size ≤ q → A q) (hZ : zSt G A s s.heap) (r : Unit) (kr : kJ0_checkIndex_df160 p l e s m args below meth c Q G D cA A x1 x2 N r) (h : fJ0_checkIndex_df160 N x1 x2 = some r) (H : Heap) (locs : List Loc) (hP : va_P D vwCl (wJ0_checkIndex_df160 cA ) H) (hD : va_D A (wJ0_checkIndex_df160 cA )) (hS : va_S A s.heap H locs) (ls : Array Slot) (hl : lv_has ls 2 [(0, .int (iZ x1)), (1, .int (iZ x2))]) : W p l e rmJ0_checkIndex_df160 s m args below meth c H locs 0 0 Q (F0 m 0 ls []) := by
  obtain ⟨hx, hb, hml, hown, hts⟩ := id C
  have hq : ∀ w ∈ wAll, w.before args s = true := fun w h => hts w (List.mem_cons_of_mem _ h)
  unfold fJ0_checkIndex_df160 at h
  refine lv_iload_n hx hb dJ0_checkIndex_df160_0 rfl (lv_at hl 0 rfl) ?_
  refine lv_iload_n hx hb dJ0_checkIndex_df160_1 rfl (lv_at hl 1 rfl) ?_
  obtain ⟨o9, ho9⟩ := z_zq hZ.2.2.2.2.2.2.2.2
  refine va_gets (v := va_rf o9) hx hb ho9 hS hown (hq _ q367) (fun _ h9 => h9) dJ0_checkIndex_df160_2 ?_
  obtain ⟨r1, e1, h⟩ := bd_some h
  refine z_callSi (G := G) (D := D) (cA := cA) (wc := (wJ3_checkIndex_8e157 cA )) (wr := []) (w1 := (wJ3_checkIndex_8e157 cA )) (ws' := (wJ0_checkIndex_df160 cA )) (r := r1) (As := [.int (iZ x1), .int (iZ x2), va_rf o9]) C hK hA hZ hP hD hS [] [] [] rfl rfl rfl (by decide) (cJ3_checkIndex_8e157_m l G D cA x1 x2 o9 H.size N e1) (va_cwS 3 hts (gAllS q368 q369 q370 q365) rfl rfl rfl (by decide +kernel) ⟨Nat.le_of_ble_eq_true rfl, Nat.le_of_ble_eq_true rfl⟩) rfl hl.1 rfl (Nat.le_of_ble_eq_true rfl) ⟨Nat.zero_le _, Nat.zero_le _⟩ dJ0_checkIndex_df160_5 (fun H locs hP hD hS => ?_)
  refine lv_pop hx hb dJ0_checkIndex_df160_8 rfl ?_
  cases h
  exact kr _ _ _ _ dJ0_checkIndex_df160_9 hP hD hS
set_option maxHeartbeats 4000000 in
set_option maxRecDepth 100000 in
theorem cJ0_checkIndex_df160_m (l : Launch) (G : ZG) (D : va_G) (cA : Nat → ClassId) (x1 : Int) (x2 : Int) (sz N : Nat) {r : Unit} (hF : fJ0_checkIndex_df160 N x1 x2 = some r) : zMv l yJ0_checkIndex_df160 vJ0_checkIndex_df160 rmJ0_checkIndex_df160 G D cA [.int (iZ x1), .int (iZ x2)] (wJ0_checkIndex_df160 cA ) (wJ0_checkIndex_df160 cA ) sz := by
  refine Met.ofW (cc := cJ0_checkIndex_df160) (maxL := 2) (ret := none) (by decide) rfl ?_
  intro p e s m args below meth c s₁ B hml hv
  obtain ⟨rfl, hsz, hP, hK, hD0, hZ⟩ := hv
  subst hsz
  have hlocks := B.notSynchronized
  have hl := lv_entry ([.int (iZ x1), .int (iZ x2)]) (n := 2) (Nat.le_of_ble_eq_true rfl)
  rw [lg_entry_eq]
  generalize (lg_sl ([.int (iZ x1), .int (iZ x2)]) ++ List.replicate (2 - (lg_sl ([.int (iZ x1), .int (iZ x2)])).length) Slot.unset).toArray = ls at hl ⊢
  exact wJ0_checkIndex_df160_E p l e s m _ below meth c _ G D cA _ x1 x2 N ⟨B.exec, B.bytes, hml, findClass_of_methodNamed B.named, atoms_spec (ws := vJ0_checkIndex_df160) B.pre⟩ hK (fun q h => Or.inr h) hZ r (fun pc H locs ls hd hP hD hS => W.vret B.exec B.bytes B.returns (fun t ht hW => ⟨⟨(), rfl, trivial, by rw [ht]; exact hP, va_K.moved hW.alike hK, hD⟩, hS.F ht⟩) hS.2.2 hd) hF s.heap [] hP (hD0.self (sz := s.heap.size)) va_S.rf ls hl

/-! ===== java/lang/StringLatin1.charAt([BI)C ===== -/
abbrev rmJ1_charAt_3b067 : Room := { frames := 2, cells := 0, slots := 0, locals := 43 }
abbrev wJ1_charAt_3b067 (cA : Nat → ClassId) : va_W := []
def fJ1_charAt_3b067 (N : Nat) (z1 : Nat) (x2 : Int) : Option (Int) := ((fJ0_checkIndex_df160 N x2 (lenZ z1)).bind fun r1 => (gd ((0 : Int) ≤ x2 ∧ x2 < lenZ z1) (gd (0 ≤ cZ (aZ (bytZ z1 x2.toNat) 255) ∧ cZ (aZ (bytZ z1 x2.toNat) 255) < 65536) (some (cZ (aZ (bytZ z1 x2.toNat) 255))))))
abbrev kJ1_charAt_3b067 (p : Program) (l : Launch) (e : Env) (s : State) (m : MethodId) (args : Array Value) (below : List Frame) (meth : Method) (c : Code) (Q : State → Prop) (G : ZG) (D : va_G) (cA : Nat → ClassId) (A : Nat → Prop) (x2 : Int) (z1 : Nat) (N : Nat) (r : Int) : Prop := ∀ (pc : Nat) (H : Heap) (locs : List Loc) (ls : Array Slot), decode cJ1_charAt_3b067 pc = .ok (.ireturn, 1) → narrow .char (.int (iZ r)) = .int (iZ r) → va_P D vwCl (wJ1_charAt_3b067 cA ) H → va_D A (wJ1_charAt_3b067 cA ) → va_S A s.heap H locs → W p l e rmJ1_charAt_3b067 s m args below meth c H locs 0 0 Q (F0 m pc ls [.int (iZ r)])
set_option maxHeartbeats 4000000 in
set_option maxRecDepth 100000 in
theorem wJ1_charAt_3b067_E (p : Program) (l : Launch) (e : Env) (s : State) (m : MethodId) (args : Array Value) (below : List Frame) (meth : Method) (c : Code) (Q : State → Prop) (G : ZG) (D : va_G) (cA : Nat → ClassId) (A : Nat → Prop) (x2 : Int) (z1 : Nat) (N : Nat) (C : CallFix p m c cJ1_charAt_3b067 2 s args vJ1_charAt_3b067 RJ1) (hK : va_K D vwCl (zT cA) s) (hA : ∀ q, s.heap.size ≤ q → A q) (hZ : zSt G A s s.heap) (hz1 : z1 < 13) (r : Int) (kr : kJ1_charAt_3b067 p l e s m args below meth c Q G D cA A x2 z1 N r) (h : fJ1_charAt_3b067 N z1 x2 = some r) (H : Heap) (locs : List Loc) (hP : va_P D vwCl (wJ1_charAt_3b067 cA ) H) (hD : va_D A (wJ1_charAt_3b067 cA )) (hS : va_S A s.heap H locs) (ls : Array Slot) (hl : lv_has ls 2 [(0, .ref (G.2.2.2.2.2 z1)), (1, .int (iZ x2))]) : W p l e rmJ1_charAt_3b067 s m args below meth c H locs 0 0 Q (F0 m 0 ls []) := by
  obtain ⟨hx, hb, hml, hown, hts⟩ := id C
  have hq : ∀ w ∈ wAll, w.before args s = true := fun w h => hts w (List.mem_cons_of_mem _ h)
  unfold fJ1_charAt_3b067 at h
  refine lv_iload_n hx hb dJ1_charAt_3b067_0 rfl (lv_at hl 1 rfl) ?_
  refine lv_aload_n hx hb dJ1_charAt_3b067_1 rfl (lv_at hl 0 rfl) ?_
  refine z_blen hx hb hZ hz1 hS dJ1_charAt_3b067_2 ?_
  obtain ⟨r1, e1, h⟩ := bd_some h
  refine z_callSv (G := G) (D := D) (cA := cA) (wc := (wJ0_checkIndex_df160 cA )) (wr := []) (w1 := (wJ0_checkIndex_df160 cA )) (ws' := (wJ1_charAt_3b067 cA )) (As := [.int (iZ x2), .int (iZ (lenZ z1))]) C hK hA hZ hP hD hS [] [] [] rfl rfl rfl (by decide) (cJ0_checkIndex_df160_m l G D cA x2 (lenZ z1) H.size N e1) (va_cwS 2 hts (gAllS q372 q373 q363 q366) rfl rfl rfl (by decide +kernel) ⟨Nat.le_of_ble_eq_true rfl, Nat.le_of_ble_eq_true rfl⟩) rfl hl.1 rfl (Nat.le_of_ble_eq_true rfl) ⟨Nat.zero_le _, Nat.zero_le _⟩ dJ1_charAt_3b067_3 (fun H locs hP hD hS => ?_)
  refine lv_aload_n hx hb dJ1_charAt_3b067_6 rfl (lv_at hl 0 rfl) ?_
  refine lv_iload_n hx hb dJ1_charAt_3b067_7 rfl (lv_at hl 1 rfl) ?_
  obtain ⟨g2, h⟩ := gd_some h
  refine z_bld hx hb hZ hz1 hS g2 dJ1_charAt_3b067_8 ?_
  refine z_sipush hx hb dJ1_charAt_3b067_9 (by decide) ?_
  refine z_iand hx hb dJ1_charAt_3b067_12 ?_
  refine z_i2c hx hb dJ1_charAt_3b067_13 ?_
  obtain ⟨g3, h⟩ := gd_some h
  cases h
  exact kr _ _ _ _ dJ1_charAt_3b067_14 (zch_nar g3) hP hD hS
set_option maxHeartbeats 4000000 in
set_option maxRecDepth 100000 in
theorem cJ1_charAt_3b067_m (l : Launch) (G : ZG) (D : va_G) (cA : Nat → ClassId) (x2 : Int) (z1 : Nat) (sz N : Nat) (hz1 : z1 < 13) {r : Int} (hF : fJ1_charAt_3b067 N z1 x2 = some r) : zMi l yJ1_charAt_3b067 vJ1_charAt_3b067 rmJ1_charAt_3b067 G D cA [.ref (G.2.2.2.2.2 z1), .int (iZ x2)] (wJ1_charAt_3b067 cA ) (wJ1_charAt_3b067 cA ) r sz := by
  refine Met.ofW (cc := cJ1_charAt_3b067) (maxL := 2) (ret := (some .char)) (by decide) rfl ?_
  intro p e s m args below meth c s₁ B hml hv
  obtain ⟨rfl, hsz, hP, hK, hD0, hZ⟩ := hv
  subst hsz
  have hlocks := B.notSynchronized
  have hl := lv_entry ([.ref (G.2.2.2.2.2 z1), .int (iZ x2)]) (n := 2) (Nat.le_of_ble_eq_true rfl)
  rw [lg_entry_eq]
  generalize (lg_sl ([.ref (G.2.2.2.2.2 z1), .int (iZ x2)]) ++ List.replicate (2 - (lg_sl ([.ref (G.2.2.2.2.2 z1), .int (iZ x2)])).length) Slot.unset).toArray = ls at hl ⊢
  exact wJ1_charAt_3b067_E p l e s m _ below meth c _ G D cA _ x2 z1 N ⟨B.exec, B.bytes, hml, findClass_of_methodNamed B.named, atoms_spec (ws := vJ1_charAt_3b067) B.pre⟩ hK (fun q h => Or.inr h) hZ hz1 r (fun pc H locs ls hd hnar hP hD hS => W.zret B.exec B.bytes B.returns hnar (fun t ht hW => ⟨⟨_, (), rfl, rfl, by rw [ht]; exact hP, va_K.moved hW.alike hK, hD⟩, hS.F ht⟩) hS.2.2 hd) hF s.heap [] hP (hD0.self (sz := s.heap.size)) va_S.rf ls hl

/-! ===== java/lang/String.charAt(I)C ===== -/
abbrev rmJ0_charAt_5068e : Room := { frames := 3, cells := 0, slots := 0, locals := 64 }
abbrev wJ0_charAt_5068e (cA : Nat → ClassId) : va_W := []
def fJ0_charAt_5068e (N : Nat) (z0 : Nat) (x1 : Int) : Option (Int) := ((fJ0_isLatin1_aae02 N z0).bind fun r1 => (if iZ r1 = iZ 0 then none else ((fJ1_charAt_3b067 N z0 x1).bind fun r3 => (gd (0 ≤ r3 ∧ r3 < 65536) (some r3)))))
abbrev kJ0_charAt_5068e (p : Program) (l : Launch) (e : Env) (s : State) (m : MethodId) (args : Array Value) (below : List Frame) (meth : Method) (c : Code) (Q : State → Prop) (G : ZG) (D : va_G) (cA : Nat → ClassId) (A : Nat → Prop) (x1 : Int) (z0 : Nat) (N : Nat) (r : Int) : Prop := ∀ (pc : Nat) (H : Heap) (locs : List Loc) (ls : Array Slot), decode cJ0_charAt_5068e pc = .ok (.ireturn, 1) → narrow .char (.int (iZ r)) = .int (iZ r) → va_P D vwCl (wJ0_charAt_5068e cA ) H → va_D A (wJ0_charAt_5068e cA ) → va_S A s.heap H locs → W p l e rmJ0_charAt_5068e s m args below meth c H locs 0 0 Q (F0 m pc ls [.int (iZ r)])
set_option maxHeartbeats 4000000 in
set_option maxRecDepth 100000 in
theorem wJ0_charAt_5068e_E (p : Program) (l : Launch) (e : Env) (s : State) (m : MethodId) (args : Array Value) (below : List Frame) (meth : Method) (c : Code) (Q : State → Prop) (G : ZG) (D : va_G) (cA : Nat → ClassId) (A : Nat → Prop) (x1 : Int) (z0 : Nat) (N : Nat) (C : CallFix p m c cJ0_charAt_5068e 2 s args vJ0_charAt_5068e RJ0) (hK : va_K D vwCl (zT cA) s) (hA : ∀ q, s.heap.size ≤ q → A q) (hZ : zSt G A s s.heap) (hz0 : z0 < 13) (r : Int) (kr : kJ0_charAt_5068e p l e s m args below meth c Q G D cA A x1 z0 N r) (h : fJ0_charAt_5068e N z0 x1 = some r) (H : Heap) (locs : List Loc) (hP : va_P D vwCl (wJ0_charAt_5068e cA ) H) (hD : va_D A (wJ0_charAt_5068e cA )) (hS : va_S A s.heap H locs) (ls : Array Slot) (hl : lv_has ls 2 [(0, .ref (G.2.2.2.2.1 z0)), (1, .int (iZ x1))]) : W p l e rmJ0_charAt_5068e s m args below meth c H locs 0 0 Q (F0 m 0 ls []) := by
  obtain ⟨hx, hb, hml, hown, hts⟩ := id C
  have hq : ∀ w ∈ wAll, w.before args s = true := fun w h => hts w (List.mem_cons_of_mem _ h)
  unfold fJ0_charAt_5068e at h
  refine lv_aload_n hx hb dJ0_charAt_5068e_0 rfl (lv_at hl 0 rfl) ?_
  obtain ⟨r1, e1, h⟩ := bd_some h
  refine z_callUi (G := G) (D := D) (cA := cA) (wc := (wJ0_isLatin1_aae02 cA )) (wr := []) (w1 := (wJ0_isLatin1_aae02 cA )) (ws' := (wJ0_charAt_5068e cA )) (r := r1) (As := []) C hK hA hZ hP hD hS [] [] [] rfl rfl rfl (by decide) (cJ0_isLatin1_aae02_m l G D cA z0 H.size N hz0 e1) (cwV 0 hts (gAllV q389 q390 q391 q363 q364) rfl rfl rfl (by decide +kernel) ⟨Nat.le_of_ble_eq_true rfl, Nat.le_of_ble_eq_true rfl⟩) (vk_recv hZ.2.1.2.2.2.2 hz0 hS) rfl hl.1 rfl (Nat.le_of_ble_eq_true rfl) ⟨Nat.zero_le _, Nat.zero_le _⟩ dJ0_charAt_5068e_1 (fun H locs hP hD hS => ?_)
  refine z_if_eq (tgt := 16) hx hb dJ0_charAt_5068e_4 (by decide) (fun c2 => ?_) (fun c2 => ?_)
  · rw [if_pos c2] at h
    cases h
  · rw [if_neg c2] at h
    refine lv_aload_n hx hb dJ0_charAt_5068e_7 rfl (lv_at hl 0 rfl) ?_
    refine vk_getf (v := .ref (G.2.2.2.2.2 z0)) hx hb (hZ.2.1.2.2.2.2.1 z0 hz0).2.2.1 hS hown (hq _ q359) (fun _ h9 => h9) dJ0_charAt_5068e_8 ?_
    refine lv_iload_n hx hb dJ0_charAt_5068e_11 rfl (lv_at hl 1 rfl) ?_
    obtain ⟨r3, e3, h⟩ := bd_some h
    refine z_callSi (G := G) (D := D) (cA := cA) (wc := (wJ1_charAt_3b067 cA )) (wr := []) (w1 := (wJ1_charAt_3b067 cA )) (ws' := (wJ0_charAt_5068e cA )) (r := r3) (As := [.ref (G.2.2.2.2.2 z0), .int (iZ x1)]) C hK hA hZ hP hD hS [] [] [] rfl rfl rfl (by decide) (cJ1_charAt_3b067_m l G D cA x1 z0 H.size N hz0 e3) (va_cwS 2 hts (gAllS q392 q393 q394 q371) rfl rfl rfl (by decide +kernel) ⟨Nat.le_of_ble_eq_true rfl, Nat.le_of_ble_eq_true rfl⟩) rfl hl.1 rfl (Nat.le_of_ble_eq_true rfl) ⟨Nat.zero_le _, Nat.zero_le _⟩ dJ0_charAt_5068e_12 (fun H locs hP hD hS => ?_)
    obtain ⟨g4, h⟩ := gd_some h
    cases h
    exact kr _ _ _ _ dJ0_charAt_5068e_15 (zch_nar g4) hP hD hS
set_option maxHeartbeats 4000000 in
set_option maxRecDepth 100000 in
theorem cJ0_charAt_5068e_m (l : Launch) (G : ZG) (D : va_G) (cA : Nat → ClassId) (x1 : Int) (z0 : Nat) (sz N : Nat) (hz0 : z0 < 13) {r : Int} (hF : fJ0_charAt_5068e N z0 x1 = some r) : zMi l yJ0_charAt_5068e vJ0_charAt_5068e rmJ0_charAt_5068e G D cA [.ref (G.2.2.2.2.1 z0), .int (iZ x1)] (wJ0_charAt_5068e cA ) (wJ0_charAt_5068e cA ) r sz := by
  refine Met.ofW (cc := cJ0_charAt_5068e) (maxL := 2) (ret := (some .char)) (by decide) rfl ?_
  intro p e s m args below meth c s₁ B hml hv
  obtain ⟨rfl, hsz, hP, hK, hD0, hZ⟩ := hv
  subst hsz
  have hlocks := B.notSynchronized
  have hl := lv_entry ([.ref (G.2.2.2.2.1 z0), .int (iZ x1)]) (n := 2) (Nat.le_of_ble_eq_true rfl)
  rw [lg_entry_eq]
  generalize (lg_sl ([.ref (G.2.2.2.2.1 z0), .int (iZ x1)]) ++ List.replicate (2 - (lg_sl ([.ref (G.2.2.2.2.1 z0), .int (iZ x1)])).length) Slot.unset).toArray = ls at hl ⊢
  exact wJ0_charAt_5068e_E p l e s m _ below meth c _ G D cA _ x1 z0 N ⟨B.exec, B.bytes, hml, findClass_of_methodNamed B.named, atoms_spec (ws := vJ0_charAt_5068e) B.pre⟩ hK (fun q h => Or.inr h) hZ hz0 r (fun pc H locs ls hd hnar hP hD hS => W.zret B.exec B.bytes B.returns hnar (fun t ht hW => ⟨⟨_, (), rfl, rfl, by rw [ht]; exact hP, va_K.moved hW.alike hK, hD⟩, hS.F ht⟩) hS.2.2 hd) hF s.heap [] hP (hD0.self (sz := s.heap.size)) va_S.rf ls hl

/-! ===== FlickerDesk$Tally.shades(I)I ===== -/
abbrev rmX9_shades : Room := { frames := 1, cells := 0, slots := 0, locals := 23 }
abbrev wX9_shades (cA : Nat → ClassId) (h_t h_t_cums : Nat) (f_t_cums : Nat → Int) : va_W := [(h_t, .inr (9, [.ref h_t_cums])), (h_t_cums, zA (cA 0) 384 f_t_cums)]
def fX9_shades_b4 (N : Nat) (f_t_cums : Nat → Int) (x1 : Int) (rec : Int → Int → Option (Int)) (k : Int → Option (Int)) (i2 : Int) (i3 : Int) : Option (Int) := (if iZ i3 < iZ 16 then ((fX9_number N f_t_cums x1 i3).bind fun r2 => (if iZ 0 < iZ r2 then (rec (i2 + 1) (i3 + 1)) else (rec (i2 + 0) (i3 + 1)))) else (k i2))
def fX9_shades_L4 (N : Nat) (f_t_cums : Nat → Int) (x1 : Int) (k : Int → Option (Int)) : Nat → Int → Int → Option (Int)
  | 0 => fun _ _ => none
  | n + 1 => fX9_shades_b4 N f_t_cums x1 (fX9_shades_L4 N f_t_cums x1 k n) k
def fX9_shades_j33 (N : Nat) (f_t_cums : Nat → Int) (x1 : Int) (i2 : Int) : Option (Int) := (some i2)
def fX9_shades (N : Nat) (f_t_cums : Nat → Int) (x1 : Int) : Option (Int) := (fX9_shades_L4 N f_t_cums x1 (fX9_shades_j33 N f_t_cums x1) N 0 0)
abbrev kX9_shades (p : Program) (l : Launch) (e : Env) (s : State) (m : MethodId) (args : Array Value) (below : List Frame) (meth : Method) (c : Code) (Q : State → Prop) (G : ZG) (D : va_G) (cA : Nat → ClassId) (A : Nat → Prop) (h_t h_t_cums : Nat) (f_t_cums : Nat → Int) (x1 : Int) (N : Nat) (r : Int) : Prop := ∀ (pc : Nat) (H : Heap) (locs : List Loc) (ls : Array Slot), decode cX9_shades pc = .ok (.ireturn, 1) → va_P D vwCl (wX9_shades cA h_t h_t_cums f_t_cums) H → va_D A (wX9_shades cA h_t h_t_cums f_t_cums) → va_S A s.heap H locs → W p l e rmX9_shades s m args below meth c H locs 0 0 Q (F0 m pc ls [.int (iZ r)])
abbrev sX9_shades_33 (p : Program) (l : Launch) (e : Env) (s : State) (m : MethodId) (args : Array Value) (below : List Frame) (meth : Method) (c : Code) (Q : State → Prop) (G : ZG) (D : va_G) (cA : Nat → ClassId) (A : Nat → Prop) (h_t h_t_cums : Nat) (f_t_cums : Nat → Int) (x1 : Int) (N : Nat) (i2 : Int) : Prop := ∀ (H : Heap) (locs : List Loc), va_P D vwCl (wX9_shades cA h_t h_t_cums f_t_cums) H → va_D A (wX9_shades cA h_t h_t_cums f_t_cums) → va_S A s.heap H locs → ∀ ls : Array Slot, lv_has ls 4 [(2, .int (iZ i2))] → W p l e rmX9_shades s m args below meth c H locs 0 0 Q (F0 m 33 ls [])
abbrev sX9_shades_4 (p : Program) (l : Launch) (e : Env) (s : State) (m : MethodId) (args : Array Value) (below : List Frame) (meth : Method) (c : Code) (Q : State → Prop) (G : ZG) (D : va_G) (cA : Nat → ClassId) (A : Nat → Prop) (h_t h_t_cums : Nat) (f_t_cums : Nat → Int) (x1 : Int) (N : Nat) (i2 : Int) (i3 : Int) : Prop := ∀ (H : Heap) (locs : List Loc), va_P D vwCl (wX9_shades cA h_t h_t_cums f_t_cums) H → va_D A (wX9_shades cA h_t h_t_cums f_t_cums) → va_S A s.heap H locs → ∀ ls : Array Slot, lv_has ls 4 [(0, .ref h_t), (1, .int (iZ x1)), (2, .int (iZ i2)), (3, .int (iZ i3))] → W p l e rmX9_shades s m args below meth c H locs 0 0 Q (F0 m 4 ls [])
set_option maxHeartbeats 4000000 in
set_option maxRecDepth 100000 in
theorem wX9_shades_b4 (p : Program) (l : Launch) (e : Env) (s : State) (m : MethodId) (args : Array Value) (below : List Frame) (meth : Method) (c : Code) (Q : State → Prop) (G : ZG) (D : va_G) (cA : Nat → ClassId) (A : Nat → Prop) (h_t h_t_cums : Nat) (f_t_cums : Nat → Int) (x1 : Int) (N : Nat) (C : CallFix p m c cX9_shades 4 s args vX9_shades RX9) (hK : va_K D vwCl (zT cA) s) (hA : ∀ q, s.heap.size ≤ q → A q) (hZ : zSt G A s s.heap) (r : Int) (kr : kX9_shades p l e s m args below meth c Q G D cA A h_t h_t_cums f_t_cums x1 N r) (rec : Int → Int → Option (Int)) (k : Int → Option (Int)) (hrec : ∀ (i2 : Int) (i3 : Int), rec i2 i3 = some r → sX9_shades_4 p l e s m args below meth c Q G D cA A h_t h_t_cums f_t_cums x1 N i2 i3) (hk : ∀ (i2 : Int), k i2 = some r → sX9_shades_33 p l e s m args below meth c Q G D cA A h_t h_t_cums f_t_cums x1 N i2) (i2 : Int) (i3 : Int) (h : fX9_shades_b4 N f_t_cums x1 rec k i2 i3 = some r) : sX9_shades_4 p l e s m args below meth c Q G D cA A h_t h_t_cums f_t_cums x1 N i2 i3 := by
  obtain ⟨hx, hb, hml, hown, hts⟩ := id C
  have hq : ∀ w ∈ wAll, w.before args s = true := fun w h => hts w (List.mem_cons_of_mem _ h)
  intro H locs hP hD hS ls hl
  unfold fX9_shades_b4 at h
  refine lv_iload_n hx hb dX9_shades_4 rfl (lv_at hl 3 rfl) ?_
  refine z_bipush hx hb dX9_shades_5 (by decide) ?_
  refine z_icmp_ge (tgt := 33) hx hb dX9_shades_7 (by decide) (fun c1 => ?_) (fun c1 => ?_)
  · rw [if_neg c1] at h
    exact hk i2 h H locs hP hD hS ls (lv_sub hl [2] rfl)
  · rw [if_pos c1] at h
    refine lv_iload_n hx hb dX9_shades_10 rfl (lv_at hl 2 rfl) ?_
    refine lv_aload_n hx hb dX9_shades_11 rfl (lv_at hl 0 rfl) ?_
    refine lv_iload_n hx hb dX9_shades_12 rfl (lv_at hl 1 rfl) ?_
    refine lv_iload_n hx hb dX9_shades_13 rfl (lv_at hl 3 rfl) ?_
    obtain ⟨r2, e2, h⟩ := bd_some h
    refine z_callVi (G := G) (D := D) (cA := cA) (wc := (wX9_number cA h_t h_t_cums f_t_cums)) (wr := []) (w1 := (wX9_number cA h_t h_t_cums f_t_cums)) (ws' := (wX9_shades cA h_t h_t_cums f_t_cums)) (r := r2) (As := [.int (iZ x1), .int (iZ i3)]) C hK hA hZ hP hD hS [0, 1] [] [0, 1] rfl rfl rfl (by decide) (cX9_number_m l G D cA h_t h_t_cums f_t_cums x1 i3 H.size N e2) (cwV 2 hts (gAllV q240 q241 q242 q66 q238) rfl rfl rfl (by decide +kernel) ⟨Nat.le_of_ble_eq_true rfl, Nat.le_of_ble_eq_true rfl⟩) 0 9 rfl rfl rfl rfl hl.1 rfl (Nat.le_of_ble_eq_true rfl) ⟨Nat.zero_le _, Nat.zero_le _⟩ dX9_shades_14 (fun H locs hP hD hS => ?_)
    refine z_if_le (tgt := 24) hx hb dX9_shades_17 (by decide) (fun c3 => ?_) (fun c3 => ?_)
    · rw [if_neg c3] at h
      refine z_iconst hx hb dX9_shades_24 ?_
      refine z_iadd hx hb dX9_shades_25 ?_
      refine lv_istore_n (lv' := [(2, .int (iZ (i2 + 0))), (0, .ref h_t), (1, .int (iZ x1)), (3, .int (iZ i3))]) hx hb dX9_shades_26 rfl hl (by decide) rfl (fun ls hl => ?_)
      refine z_iinc (lv' := [(3, .int (iZ (i3 + 1))), (2, .int (iZ (i2 + 0))), (0, .ref h_t), (1, .int (iZ x1))]) hx hb dX9_shades_27 hl (k := 3) rfl (by decide) rfl (fun ls hl => ?_)
      refine lv_goto (tgt := 4) hx hb dX9_shades_30 (by decide) ?_
      exact hrec (i2 + 0) (i3 + 1) h H locs hP hD hS ls (lv_sub hl [2, 3, 1, 0] rfl)
    · rw [if_pos c3] at h
      refine z_iconst hx hb dX9_shades_20 ?_
      refine lv_goto (tgt := 25) hx hb dX9_shades_21 (by decide) ?_
      refine z_iadd hx hb dX9_shades_25 ?_
      refine lv_istore_n (lv' := [(2, .int (iZ (i2 + 1))), (0, .ref h_t), (1, .int (iZ x1)), (3, .int (iZ i3))]) hx hb dX9_shades_26 rfl hl (by decide) rfl (fun ls hl => ?_)
      refine z_iinc (lv' := [(3, .int (iZ (i3 + 1))), (2, .int (iZ (i2 + 1))), (0, .ref h_t), (1, .int (iZ x1))]) hx hb dX9_shades_27 hl (k := 3) rfl (by decide) rfl (fun ls hl => ?_)
      refine lv_goto (tgt := 4) hx hb dX9_shades_30 (by decide) ?_
      exact hrec (i2 + 1) (i3 + 1) h H locs hP hD hS ls (lv_sub hl [2, 3, 1, 0] rfl)
theorem wX9_shades_L4 (p : Program) (l : Launch) (e : Env) (s : State) (m : MethodId) (args : Array Value) (below : List Frame) (meth : Method) (c : Code) (Q : State → Prop) (G : ZG) (D : va_G) (cA : Nat → ClassId) (A : Nat → Prop) (h_t h_t_cums : Nat) (f_t_cums : Nat → Int) (x1 : Int) (N : Nat) (C : CallFix p m c cX9_shades 4 s args vX9_shades RX9) (hK : va_K D vwCl (zT cA) s) (hA : ∀ q, s.heap.size ≤ q → A q) (hZ : zSt G A s s.heap) (r : Int) (kr : kX9_shades p l e s m args below meth c Q G D cA A h_t h_t_cums f_t_cums x1 N r) (k : Int → Option (Int)) (hk : ∀ (i2 : Int), k i2 = some r → sX9_shades_33 p l e s m args below meth c Q G D cA A h_t h_t_cums f_t_cums x1 N i2) : ∀ (n : Nat) (i2 : Int) (i3 : Int), fX9_shades_L4 N f_t_cums x1 k n i2 i3 = some r → sX9_shades_4 p l e s m args below meth c Q G D cA A h_t h_t_cums f_t_cums x1 N i2 i3 := by
  intro n
  induction n with
  | zero =>
    intro i2 i3 h
    have h : none = some r := h
    cases h
  | succ n ih =>
    intro i2 i3 h
    exact wX9_shades_b4 p l e s m args below meth c Q G D cA A h_t h_t_cums f_t_cums x1 N C hK hA hZ r kr (fX9_shades_L4 N f_t_cums x1 k n) k ih hk i2 i3 h
set_option maxHeartbeats 4000000 in
set_option maxRecDepth 100000 in
theorem wX9_shades_j33 (p : Program) (l : Launch) (e : Env) (s : State) (m : MethodId) (args : Array Value) (below : List Frame) (meth : Method) (c : Code) (Q : State → Prop) (G : ZG) (D : va_G) (cA : Nat → ClassId) (A : Nat → Prop) (h_t h_t_cums : Nat) (f_t_cums : Nat → Int) (x1 : Int) (N : Nat) (C : CallFix p m c cX9_shades 4 s args vX9_shades RX9) (hK : va_K D vwCl (zT cA) s) (hA : ∀ q, s.heap.size ≤ q → A q) (hZ : zSt G A s s.heap) (r : Int) (kr : kX9_shades p l e s m args below meth c Q G D cA A h_t h_t_cums f_t_cums x1 N r) (i2 : Int) (h : fX9_shades_j33 N f_t_cums x1 i2 = some r) : sX9_shades_33 p l e s m args below meth c Q G D cA A h_t h_t_cums f_t_cums x1 N i2 := by
  obtain ⟨hx, hb, hml, hown, hts⟩ := id C
  have hq : ∀ w ∈ wAll, w.before args s = true := fun w h => hts w (List.mem_cons_of_mem _ h)
  intro H locs hP hD hS ls hl
  unfold fX9_shades_j33 at h
  refine lv_iload_n hx hb dX9_shades_33 rfl (lv_at hl 0 rfl) ?_
  cases h
  exact kr _ _ _ _ dX9_shades_34 hP hD hS
set_option maxHeartbeats 4000000 in
set_option maxRecDepth 100000 in
theorem wX9_shades_E (p : Program) (l : Launch) (e : Env) (s : State) (m : MethodId) (args : Array Value) (below : List Frame) (meth : Method) (c : Code) (Q : State → Prop) (G : ZG) (D : va_G) (cA : Nat → ClassId) (A : Nat → Prop) (h_t h_t_cums : Nat) (f_t_cums : Nat → Int) (x1 : Int) (N : Nat) (C : CallFix p m c cX9_shades 4 s args vX9_shades RX9) (hK : va_K D vwCl (zT cA) s) (hA : ∀ q, s.heap.size ≤ q → A q) (hZ : zSt G A s s.heap) (r : Int) (kr : kX9_shades p l e s m args below meth c Q G D cA A h_t h_t_cums f_t_cums x1 N r) (h : fX9_shades N f_t_cums x1 = some r) (H : Heap) (locs : List Loc) (hP : va_P D vwCl (wX9_shades cA h_t h_t_cums f_t_cums) H) (hD : va_D A (wX9_shades cA h_t h_t_cums f_t_cums)) (hS : va_S A s.heap H locs) (ls : Array Slot) (hl : lv_has ls 4 [(0, .ref h_t), (1, .int (iZ x1))]) : W p l e rmX9_shades s m args below meth c H locs 0 0 Q (F0 m 0 ls []) := by
  obtain ⟨hx, hb, hml, hown, hts⟩ := id C
  have hq : ∀ w ∈ wAll, w.before args s = true := fun w h => hts w (List.mem_cons_of_mem _ h)
  unfold fX9_shades at h
  refine z_iconst hx hb dX9_shades_0 ?_
  refine lv_istore_n (lv' := [(2, .int (iZ 0)), (0, .ref h_t), (1, .int (iZ x1))]) hx hb dX9_shades_1 rfl hl (by decide) rfl (fun ls hl => ?_)
  refine z_iconst hx hb dX9_shades_2 ?_
  refine lv_istore_n (lv' := [(3, .int (iZ 0)), (2, .int (iZ 0)), (0, .ref h_t), (1, .int (iZ x1))]) hx hb dX9_shades_3 rfl hl (by decide) rfl (fun ls hl => ?_)
  exact wX9_shades_L4 p l e s m args below meth c Q G D cA A h_t h_t_cums f_t_cums x1 N C hK hA hZ r kr (fX9_shades_j33 N f_t_cums x1) (fun y0 h9 => wX9_shades_j33 p l e s m args below meth c Q G D cA A h_t h_t_cums f_t_cums x1 N C hK hA hZ r kr y0 h9) N 0 0 h H locs hP hD hS ls (lv_sub hl [2, 3, 1, 0] rfl)
set_option maxHeartbeats 4000000 in
set_option maxRecDepth 100000 in
theorem cX9_shades_m (l : Launch) (G : ZG) (D : va_G) (cA : Nat → ClassId) (h_t h_t_cums : Nat) (f_t_cums : Nat → Int) (x1 : Int) (sz N : Nat) {r : Int} (hF : fX9_shades N f_t_cums x1 = some r) : zMi l yX9_shades vX9_shades rmX9_shades G D cA [.ref h_t, .int (iZ x1)] (wX9_shades cA h_t h_t_cums f_t_cums) (wX9_shades cA h_t h_t_cums f_t_cums) r sz := by
  refine Met.ofW (cc := cX9_shades) (maxL := 4) (ret := (some .int)) (by decide) rfl ?_
  intro p e s m args below meth c s₁ B hml hv
  obtain ⟨rfl, hsz, hP, hK, hD0, hZ⟩ := hv
  subst hsz
  have hlocks := B.notSynchronized
  have hl := lv_entry ([.ref h_t, .int (iZ x1)]) (n := 4) (Nat.le_of_ble_eq_true rfl)
  rw [lg_entry_eq]
  generalize (lg_sl ([.ref h_t, .int (iZ x1)]) ++ List.replicate (4 - (lg_sl ([.ref h_t, .int (iZ x1)])).length) Slot.unset).toArray = ls at hl ⊢
  exact wX9_shades_E p l e s m _ below meth c _ G D cA _ h_t h_t_cums f_t_cums x1 N ⟨B.exec, B.bytes, hml, findClass_of_methodNamed B.named, atoms_spec (ws := vX9_shades) B.pre⟩ hK (fun q h => Or.inr h) hZ r (fun pc H locs ls hd hP hD hS => W.iret B.exec B.bytes B.returns (fun t ht hW => ⟨⟨_, (), rfl, rfl, by rw [ht]; exact hP, va_K.moved hW.alike hK, hD⟩, hS.F ht⟩) hS.2.2 hd) hF s.heap [] hP (hD0.self (sz := s.heap.size)) va_S.rf ls hl

/-! ===== FlickerDesk$Tally.isNew(I)Z ===== -/
abbrev rmX9_isNew : Room := { frames := 1, cells := 0, slots := 0, locals := 25 }
abbrev wX9_isNew (cA : Nat → ClassId) (h_t h_t_cums : Nat) (f_t_cums : Nat → Int) : va_W := [(h_t, .inr (9, [.ref h_t_cums])), (h_t_cums, zA (cA 0) 384 f_t_cums)]
def fX9_isNew_b2 (N : Nat) (f_t_cums : Nat → Int) (x1 : Int) (rec : Int → Option (Int)) (k : Option (Int)) (i2 : Int) : Option (Int) := (if iZ i2 < iZ x1 then ((fX9_gap N f_t_cums i2 x1).bind fun r2 => (if iZ r2 = iZ 0 then (some 0) else (rec (i2 + 1)))) else k)
def fX9_isNew_L2 (N : Nat) (f_t_cums : Nat → Int) (x1 : Int) (k : Option (Int)) : Nat → Int → Option (Int)
  | 0 => fun _ => none
  | n + 1 => fX9_isNew_b2 N f_t_cums x1 (fX9_isNew_L2 N f_t_cums x1 k n) k
def fX9_isNew_j24 (N : Nat) (f_t_cums : Nat → Int) (x1 : Int) : Option (Int) := (some 1)
def fX9_isNew (N : Nat) (f_t_cums : Nat → Int) (x1 : Int) : Option (Int) := (fX9_isNew_L2 N f_t_cums x1 (fX9_isNew_j24 N f_t_cums x1) N 0)
abbrev kX9_isNew (p : Program) (l : Launch) (e : Env) (s : State) (m : MethodId) (args : Array Value) (below : List Frame) (meth : Method) (c : Code) (Q : State → Prop) (G : ZG) (D : va_G) (cA : Nat → ClassId) (A : Nat → Prop) (h_t h_t_cums : Nat) (f_t_cums : Nat → Int) (x1 : Int) (N : Nat) (r : Int) : Prop := ∀ (pc : Nat) (H : Heap) (locs : List Loc) (ls : Array Slot), decode cX9_isNew pc = .ok (.ireturn, 1) → narrow .boolean (.int (iZ r)) = .int (iZ r) → va_P D vwCl (wX9_isNew cA h_t h_t_cums f_t_cums) H → va_D A (wX9_isNew cA h_t h_t_cums f_t_cums) → va_S A s.heap H locs → W p l e rmX9_isNew s m args below meth c H locs 0 0 Q (F0 m pc ls [.int (iZ r)])
abbrev sX9_isNew_24 (p : Program) (l : Launch) (e : Env) (s : State) (m : MethodId) (args : Array Value) (below : List Frame) (meth : Method) (c : Code) (Q : State → Prop) (G : ZG) (D : va_G) (cA : Nat → ClassId) (A : Nat → Prop) (h_t h_t_cums : Nat) (f_t_cums : Nat → Int) (x1 : Int) (N : Nat) : Prop := ∀ (H : Heap) (locs : List Loc), va_P D vwCl (wX9_isNew cA h_t h_t_cums f_t_cums) H → va_D A (wX9_isNew cA h_t h_t_cums f_t_cums) → va_S A s.heap H locs → ∀ ls : Array Slot, lv_has ls 3 [] → W p l e rmX9_isNew s m args below meth c H locs 0 0 Q (F0 m 24 ls [])
abbrev sX9_isNew_2 (p : Program) (l : Launch) (e : Env) (s : State) (m : MethodId) (args : Array Value) (below : List Frame) (meth : Method) (c : Code) (Q : State → Prop) (G : ZG) (D : va_G) (cA : Nat → ClassId) (A : Nat → Prop) (h_t h_t_cums : Nat) (f_t_cums : Nat → Int) (x1 : Int) (N : Nat) (i2 : Int) : Prop := ∀ (H : Heap) (locs : List Loc), va_P D vwCl (wX9_isNew cA h_t h_t_cums f_t_cums) H → va_D A (wX9_isNew cA h_t h_t_cums f_t_cums) → va_S A s.heap H locs → ∀ ls : Array Slot, lv_has ls 3 [(0, .ref h_t), (1, .int (iZ x1)), (2, .int (iZ i2))] → W p l e rmX9_isNew s m args below meth c H locs 0 0 Q (F0 m 2 ls [])
set_option maxHeartbeats 4000000 in
set_option maxRecDepth 100000 in
theorem wX9_isNew_b2 (p : Program) (l : Launch) (e : Env) (s : State) (m : MethodId) (args : Array Value) (below : List Frame) (meth : Method) (c : Code) (Q : State → Prop) (G : ZG) (D : va_G) (cA : Nat → ClassId) (A : Nat → Prop) (h_t h_t_cums : Nat) (f_t_cums : Nat → Int) (x1 : Int) (N : Nat) (C : CallFix p m c cX9_isNew 3 s args vX9_isNew RX9) (hK : va_K D vwCl (zT cA) s) (hA : ∀ q, s.heap.size ≤ q → A q) (hZ : zSt G A s s.heap) (r : Int) (kr : kX9_isNew p l e s m args below meth c Q G D cA A h_t h_t_cums f_t_cums x1 N r) (rec : Int → Option (Int)) (k : Option (Int)) (hrec : ∀ (i2 : Int), rec i2 = some r → sX9_isNew_2 p l e s m args below meth c Q G D cA A h_t h_t_cums f_t_cums x1 N i2) (hk : k = some r → sX9_isNew_24 p l e s m args below meth c Q G D cA A h_t h_t_cums f_t_cums x1 N) (i2 : Int) (h : fX9_isNew_b2 N f_t_cums x1 rec k i2 = some r) : sX9_isNew_2 p l e s m args below meth c Q G D cA A h_t h_t_cums f_t_cums x1 N i2 := by
  obtain ⟨hx, hb, hml, hown, hts⟩ := id C
  have hq : ∀ w ∈ wAll, w.before args s = true := fun w h => hts w (List.mem_cons_of_mem _ h)
  intro H locs hP hD hS ls hl
  unfold fX9_isNew_b2 at h
  refine lv_iload_n hx hb dX9_isNew_2 rfl (lv_at hl 2 rfl) ?_
  refine lv_iload_n hx hb dX9_isNew_3 rfl (lv_at hl 1 rfl) ?_
  refine z_icmp_ge (tgt := 24) hx hb dX9_isNew_4 (by decide) (fun c1 => ?_) (fun c1 => ?_)
  · rw [if_neg c1] at h
    exact hk  h H locs hP hD hS ls (lv_sub hl [] rfl)
  · rw [if_pos c1] at h
    refine lv_aload_n hx hb dX9_isNew_7 rfl (lv_at hl 0 rfl) ?_
    refine lv_iload_n hx hb dX9_isNew_8 rfl (lv_at hl 2 rfl) ?_
    refine lv_iload_n hx hb dX9_isNew_9 rfl (lv_at hl 1 rfl) ?_
    obtain ⟨r2, e2, h⟩ := bd_some h
    refine z_callVi (G := G) (D := D) (cA := cA) (wc := (wX9_gap cA h_t h_t_cums f_t_cums)) (wr := []) (w1 := (wX9_gap cA h_t h_t_cums f_t_cums)) (ws' := (wX9_isNew cA h_t h_t_cums f_t_cums)) (r := r2) (As := [.int (iZ i2), .int (iZ x1)]) C hK hA hZ hP hD hS [0, 1] [] [0, 1] rfl rfl rfl (by decide) (cX9_gap_m l G D cA h_t h_t_cums f_t_cums i2 x1 H.size N e2) (cwV 2 hts (gAllV q493 q96 q97 q66 q91) rfl rfl rfl (by decide +kernel) ⟨Nat.le_of_ble_eq_true rfl, Nat.le_of_ble_eq_true rfl⟩) 0 9 rfl rfl rfl rfl hl.1 rfl (Nat.le_of_ble_eq_true rfl) ⟨Nat.zero_le _, Nat.zero_le _⟩ dX9_isNew_10 (fun H locs hP hD hS => ?_)
    refine z_if_ne (tgt := 18) hx hb dX9_isNew_13 (by decide) (fun c3 => ?_) (fun c3 => ?_)
    · rw [if_neg c3] at h
      refine z_iinc (lv' := [(2, .int (iZ (i2 + 1))), (0, .ref h_t), (1, .int (iZ x1))]) hx hb dX9_isNew_18 hl (k := 2) rfl (by decide) rfl (fun ls hl => ?_)
      refine lv_goto (tgt := 2) hx hb dX9_isNew_21 (by decide) ?_
      exact hrec (i2 + 1) h H locs hP hD hS ls (lv_sub hl [1, 2, 0] rfl)
    · rw [if_pos c3] at h
      refine z_iconst hx hb dX9_isNew_16 ?_
      cases h
      exact kr _ _ _ _ dX9_isNew_17 (zb_nar (Or.inl rfl)) hP hD hS
theorem wX9_isNew_L2 (p : Program) (l : Launch) (e : Env) (s : State) (m : MethodId) (args : Array Value) (below : List Frame) (meth : Method) (c : Code) (Q : State → Prop) (G : ZG) (D : va_G) (cA : Nat → ClassId) (A : Nat → Prop) (h_t h_t_cums : Nat) (f_t_cums : Nat → Int) (x1 : Int) (N : Nat) (C : CallFix p m c cX9_isNew 3 s args vX9_isNew RX9) (hK : va_K D vwCl (zT cA) s) (hA : ∀ q, s.heap.size ≤ q → A q) (hZ : zSt G A s s.heap) (r : Int) (kr : kX9_isNew p l e s m args below meth c Q G D cA A h_t h_t_cums f_t_cums x1 N r) (k : Option (Int)) (hk : k = some r → sX9_isNew_24 p l e s m args below meth c Q G D cA A h_t h_t_cums f_t_cums x1 N) : ∀ (n : Nat) (i2 : Int), fX9_isNew_L2 N f_t_cums x1 k n i2 = some r → sX9_isNew_2 p l e s m args below meth c Q G D cA A h_t h_t_cums f_t_cums x1 N i2 := by
  intro n
  induction n with
  | zero =>
    intro i2 h
    have h : none = some r := h
    cases h
  | succ n ih =>
    intro i2 h
    exact wX9_isNew_b2 p l e s m args below meth c Q G D cA A h_t h_t_cums f_t_cums x1 N C hK hA hZ r kr (fX9_isNew_L2 N f_t_cums x1 k n) k ih hk i2 h
set_option maxHeartbeats 4000000 in
set_option maxRecDepth 100000 in
theorem wX9_isNew_j24 (p : Program) (l : Launch) (e : Env) (s : State) (m : MethodId) (args : Array Value) (below : List Frame) (meth : Method) (c : Code) (Q : State → Prop) (G : ZG) (D : va_G) (cA : Nat → ClassId) (A : Nat → Prop) (h_t h_t_cums : Nat) (f_t_cums : Nat → Int) (x1 : Int) (N : Nat) (C : CallFix p m c cX9_isNew 3 s args vX9_isNew RX9) (hK : va_K D vwCl (zT cA) s) (hA : ∀ q, s.heap.size ≤ q → A q) (hZ : zSt G A s s.heap) (r : Int) (kr : kX9_isNew p l e s m args below meth c Q G D cA A h_t h_t_cums f_t_cums x1 N r) (h : fX9_isNew_j24 N f_t_cums x1 = some r) : sX9_isNew_24 p l e s m args below meth c Q G D cA A h_t h_t_cums f_t_cums x1 N := by
  obtain ⟨hx, hb, hml, hown, hts⟩ := id C
  have hq : ∀ w ∈ wAll, w.before args s = true := fun w h => hts w (List.mem_cons_of_mem _ h)
  intro H locs hP hD hS ls hl
  unfold fX9_isNew_j24 at h
  refine z_iconst hx hb dX9_isNew_24 ?_
  cases h
  exact kr _ _ _ _ dX9_isNew_25 (zb_nar (Or.inr rfl)) hP hD hS
set_option maxHeartbeats 4000000 in
set_option maxRecDepth 100000 in
theorem wX9_isNew_E (p : Program) (l : Launch) (e : Env) (s : State) (m : MethodId) (args : Array Value) (below : List Frame) (meth : Method) (c : Code) (Q : State → Prop) (G : ZG) (D : va_G) (cA : Nat → ClassId) (A : Nat → Prop) (h_t h_t_cums : Nat) (f_t_cums : Nat → Int) (x1 : Int) (N : Nat) (C : CallFix p m c cX9_isNew 3 s args vX9_isNew RX9) (hK : va_K D vwCl (zT cA) s) (hA : ∀ q, s.heap.size ≤ q → A q) (hZ : zSt G A s s.heap) (r : Int) (kr : kX9_isNew p l e s m args below meth c Q G D cA A h_t h_t_cums f_t_cums x1 N r) (h : fX9_isNew N f_t_cums x1 = some r) (H : Heap) (locs : List Loc) (hP : va_P D vwCl (wX9_isNew cA h_t h_t_cums f_t_cums) H) (hD : va_D A (wX9_isNew cA h_t h_t_cums f_t_cums)) (hS : va_S A s.heap H locs) (ls : Array Slot) (hl : lv_has ls 3 [(0, .ref h_t), (1, .int (iZ x1))]) : W p l e rmX9_isNew s m args below meth c H locs 0 0 Q (F0 m 0 ls []) := by
  obtain ⟨hx, hb, hml, hown, hts⟩ := id C
  have hq : ∀ w ∈ wAll, w.before args s = true := fun w h => hts w (List.mem_cons_of_mem _ h)
  unfold fX9_isNew at h
  refine z_iconst hx hb dX9_isNew_0 ?_
  refine lv_istore_n (lv' := [(2, .int (iZ 0)), (0, .ref h_t), (1, .int (iZ x1))]) hx hb dX9_isNew_1 rfl hl (by decide) rfl (fun ls hl => ?_)
  exact wX9_isNew_L2 p l e s m args below meth c Q G D cA A h_t h_t_cums f_t_cums x1 N C hK hA hZ r kr (fX9_isNew_j24 N f_t_cums x1) (fun h9 => wX9_isNew_j24 p l e s m args below meth c Q G D cA A h_t h_t_cums f_t_cums x1 N C hK hA hZ r kr  h9) N 0 h H locs hP hD hS ls (lv_sub hl [1, 2, 0] rfl)
set_option maxHeartbeats 4000000 in
set_option maxRecDepth 100000 in
theorem cX9_isNew_m (l : Launch) (G : ZG) (D : va_G) (cA : Nat → ClassId) (h_t h_t_cums : Nat) (f_t_cums : Nat → Int) (x1 : Int) (sz N : Nat) {r : Int} (hF : fX9_isNew N f_t_cums x1 = some r) : zMi l yX9_isNew vX9_isNew rmX9_isNew G D cA [.ref h_t, .int (iZ x1)] (wX9_isNew cA h_t h_t_cums f_t_cums) (wX9_isNew cA h_t h_t_cums f_t_cums) r sz := by
  refine Met.ofW (cc := cX9_isNew) (maxL := 3) (ret := (some .boolean)) (by decide) rfl ?_
  intro p e s m args below meth c s₁ B hml hv
  obtain ⟨rfl, hsz, hP, hK, hD0, hZ⟩ := hv
  subst hsz
  have hlocks := B.notSynchronized
  have hl := lv_entry ([.ref h_t, .int (iZ x1)]) (n := 3) (Nat.le_of_ble_eq_true rfl)
  rw [lg_entry_eq]
  generalize (lg_sl ([.ref h_t, .int (iZ x1)]) ++ List.replicate (3 - (lg_sl ([.ref h_t, .int (iZ x1)])).length) Slot.unset).toArray = ls at hl ⊢
  exact wX9_isNew_E p l e s m _ below meth c _ G D cA _ h_t h_t_cums f_t_cums x1 N ⟨B.exec, B.bytes, hml, findClass_of_methodNamed B.named, atoms_spec (ws := vX9_isNew) B.pre⟩ hK (fun q h => Or.inr h) hZ r (fun pc H locs ls hd hnar hP hD hS => W.zret B.exec B.bytes B.returns hnar (fun t ht hW => ⟨⟨_, (), rfl, rfl, by rw [ht]; exact hP, va_K.moved hW.alike hK, hD⟩, hS.F ht⟩) hS.2.2 hd) hF s.heap [] hP (hD0.self (sz := s.heap.size)) va_S.rf ls hl

/-! ===== java/lang/Integer.bitCount(I)I ===== -/
abbrev rmJ6_bitCount_0f7a4 : Room := { frames := 0, cells := 0, slots := 0, locals := 0 }
abbrev wJ6_bitCount_0f7a4 (cA : Nat → ClassId) : va_W := []
def fJ6_bitCount_0f7a4 (N : Nat) (x1 : Int) : Option (Int) := (some (aZ (((aZ (((aZ (x1 - (aZ (tZ x1 1) 1431655765)) 858993459) + (aZ (tZ (x1 - (aZ (tZ x1 1) 1431655765)) 2) 858993459)) + (tZ ((aZ (x1 - (aZ (tZ x1 1) 1431655765)) 858993459) + (aZ (tZ (x1 - (aZ (tZ x1 1) 1431655765)) 2) 858993459)) 4)) 252645135) + (tZ (aZ (((aZ (x1 - (aZ (tZ x1 1) 1431655765)) 858993459) + (aZ (tZ (x1 - (aZ (tZ x1 1) 1431655765)) 2) 858993459)) + (tZ ((aZ (x1 - (aZ (tZ x1 1) 1431655765)) 858993459) + (aZ (tZ (x1 - (aZ (tZ x1 1) 1431655765)) 2) 858993459)) 4)) 252645135) 8)) + (tZ ((aZ (((aZ (x1 - (aZ (tZ x1 1) 1431655765)) 858993459) + (aZ (tZ (x1 - (aZ (tZ x1 1) 1431655765)) 2) 858993459)) + (tZ ((aZ (x1 - (aZ (tZ x1 1) 1431655765)) 858993459) + (aZ (tZ (x1 - (aZ (tZ x1 1) 1431655765)) 2) 858993459)) 4)) 252645135) + (tZ (aZ (((aZ (x1 - (aZ (tZ x1 1) 1431655765)) 858993459) + (aZ (tZ (x1 - (aZ (tZ x1 1) 1431655765)) 2) 858993459)) + (tZ ((aZ (x1 - (aZ (tZ x1 1) 1431655765)) 858993459) + (aZ (tZ (x1 - (aZ (tZ x1 1) 1431655765)) 2) 858993459)) 4)) 252645135) 8)) 16)) 63))
abbrev kJ6_bitCount_0f7a4 (p : Program) (l : Launch) (e : Env) (s : State) (m : MethodId) (args : Array Value) (below : List Frame) (meth : Method) (c : Code) (Q : State → Prop) (G : ZG) (D : va_G) (cA : Nat → ClassId) (A : Nat → Prop) (N : Nat) (r : Int) : Prop := ∀ (pc : Nat) (H : Heap) (locs : List Loc) (ls : Array Slot), decode cJ6_bitCount_0f7a4 pc = .ok (.ireturn, 1) → va_P D vwCl (wJ6_bitCount_0f7a4 cA ) H → va_D A (wJ6_bitCount_0f7a4 cA ) → va_S A s.heap H locs → W p l e rmJ6_bitCount_0f7a4 s m args below meth c H locs 0 0 Q (F0 m pc ls [.int (iZ r)])
set_option maxHeartbeats 4000000 in
set_option maxRecDepth 100000 in
theorem wJ6_bitCount_0f7a4_E (p : Program) (l : Launch) (e : Env) (s : State) (m : MethodId) (args : Array Value) (below : List Frame) (meth : Method) (c : Code) (Q : State → Prop) (G : ZG) (D : va_G) (cA : Nat → ClassId) (A : Nat → Prop) (N : Nat) (C : CallFix p m c cJ6_bitCount_0f7a4 1 s args vJ6_bitCount_0f7a4 RJ6) (hK : va_K D vwCl (zT cA) s) (hA : ∀ q, s.heap.size ≤ q → A q) (hZ : zSt G A s s.heap) (r : Int) (kr : kJ6_bitCount_0f7a4 p l e s m args below meth c Q G D cA A N r) (x1 : Int) (h : fJ6_bitCount_0f7a4 N x1 = some r) (H : Heap) (locs : List Loc) (hP : va_P D vwCl (wJ6_bitCount_0f7a4 cA ) H) (hD : va_D A (wJ6_bitCount_0f7a4 cA )) (hS : va_S A s.heap H locs) (ls : Array Slot) (hl : lv_has ls 1 [(0, .int (iZ x1))]) : W p l e rmJ6_bitCount_0f7a4 s m args below meth c H locs 0 0 Q (F0 m 0 ls []) := by
  obtain ⟨hx, hb, hml, hown, hts⟩ := id C
  have hq : ∀ w ∈ wAll, w.before args s = true := fun w h => hts w (List.mem_cons_of_mem _ h)
  unfold fJ6_bitCount_0f7a4 at h
  refine lv_iload_n hx hb dJ6_bitCount_0f7a4_0 rfl (lv_at hl 0 rfl) ?_
  refine lv_iload_n hx hb dJ6_bitCount_0f7a4_1 rfl (lv_at hl 0 rfl) ?_
  refine z_iconst hx hb dJ6_bitCount_0f7a4_2 ?_
  refine z_iushr hx hb dJ6_bitCount_0f7a4_3 ?_
  refine z_ldcw (v := 1431655765) (n := 1431655765) (by decide) hx hb hown (hq _ q865) dJ6_bitCount_0f7a4_4 ?_
  refine z_iand hx hb dJ6_bitCount_0f7a4_7 ?_
  refine z_isub hx hb dJ6_bitCount_0f7a4_8 ?_
  refine lv_istore_n (lv' := [(0, .int (iZ (x1 - (aZ (tZ x1 1) 1431655765))))]) hx hb dJ6_bitCount_0f7a4_9 rfl hl (by decide) rfl (fun ls hl => ?_)
  refine lv_iload_n hx hb dJ6_bitCount_0f7a4_10 rfl (lv_at hl 0 rfl) ?_
  refine z_ldcw (v := 858993459) (n := 858993459) (by decide) hx hb hown (hq _ q866) dJ6_bitCount_0f7a4_11 ?_
  refine z_iand hx hb dJ6_bitCount_0f7a4_14 ?_
  refine lv_iload_n hx hb dJ6_bitCount_0f7a4_15 rfl (lv_at hl 0 rfl) ?_
  refine z_iconst hx hb dJ6_bitCount_0f7a4_16 ?_
  refine z_iushr hx hb dJ6_bitCount_0f7a4_17 ?_
  refine z_ldcw (v := 858993459) (n := 858993459) (by decide) hx hb hown (hq _ q866) dJ6_bitCount_0f7a4_18 ?_
  refine z_iand hx hb dJ6_bitCount_0f7a4_21 ?_
  refine z_iadd hx hb dJ6_bitCount_0f7a4_22 ?_
  refine lv_istore_n (lv' := [(0, .int (iZ ((aZ (x1 - (aZ (tZ x1 1) 1431655765)) 858993459) + (aZ (tZ (x1 - (aZ (tZ x1 1) 1431655765)) 2) 858993459))))]) hx hb dJ6_bitCount_0f7a4_23 rfl hl (by decide) rfl (fun ls hl => ?_)
  refine lv_iload_n hx hb dJ6_bitCount_0f7a4_24 rfl (lv_at hl 0 rfl) ?_
  refine lv_iload_n hx hb dJ6_bitCount_0f7a4_25 rfl (lv_at hl 0 rfl) ?_
  refine z_iconst hx hb dJ6_bitCount_0f7a4_26 ?_
  refine z_iushr hx hb dJ6_bitCount_0f7a4_27 ?_
  refine z_iadd hx hb dJ6_bitCount_0f7a4_28 ?_
  refine z_ldcw (v := 252645135) (n := 252645135) (by decide) hx hb hown (hq _ q867) dJ6_bitCount_0f7a4_29 ?_
  refine z_iand hx hb dJ6_bitCount_0f7a4_32 ?_
  refine lv_istore_n (lv' := [(0, .int (iZ (aZ (((aZ (x1 - (aZ (tZ x1 1) 1431655765)) 858993459) + (aZ (tZ (x1 - (aZ (tZ x1 1) 1431655765)) 2) 858993459)) + (tZ ((aZ (x1 - (aZ (tZ x1 1) 1431655765)) 858993459) + (aZ (tZ (x1 - (aZ (tZ x1 1) 1431655765)) 2) 858993459)) 4)) 252645135)))]) hx hb dJ6_bitCount_0f7a4_33 rfl hl (by decide) rfl (fun ls hl => ?_)
  refine lv_iload_n hx hb dJ6_bitCount_0f7a4_34 rfl (lv_at hl 0 rfl) ?_
  refine lv_iload_n hx hb dJ6_bitCount_0f7a4_35 rfl (lv_at hl 0 rfl) ?_
  refine z_bipush hx hb dJ6_bitCount_0f7a4_36 (by decide) ?_
  refine z_iushr hx hb dJ6_bitCount_0f7a4_38 ?_
  refine z_iadd hx hb dJ6_bitCount_0f7a4_39 ?_
  refine lv_istore_n (lv' := [(0, .int (iZ ((aZ (((aZ (x1 - (aZ (tZ x1 1) 1431655765)) 858993459) + (aZ (tZ (x1 - (aZ (tZ x1 1) 1431655765)) 2) 858993459)) + (tZ ((aZ (x1 - (aZ (tZ x1 1) 1431655765)) 858993459) + (aZ (tZ (x1 - (aZ (tZ x1 1) 1431655765)) 2) 858993459)) 4)) 252645135) + (tZ (aZ (((aZ (x1 - (aZ (tZ x1 1) 1431655765)) 858993459) + (aZ (tZ (x1 - (aZ (tZ x1 1) 1431655765)) 2) 858993459)) + (tZ ((aZ (x1 - (aZ (tZ x1 1) 1431655765)) 858993459) + (aZ (tZ (x1 - (aZ (tZ x1 1) 1431655765)) 2) 858993459)) 4)) 252645135) 8))))]) hx hb dJ6_bitCount_0f7a4_40 rfl hl (by decide) rfl (fun ls hl => ?_)
  refine lv_iload_n hx hb dJ6_bitCount_0f7a4_41 rfl (lv_at hl 0 rfl) ?_
  refine lv_iload_n hx hb dJ6_bitCount_0f7a4_42 rfl (lv_at hl 0 rfl) ?_
  refine z_bipush hx hb dJ6_bitCount_0f7a4_43 (by decide) ?_
  refine z_iushr hx hb dJ6_bitCount_0f7a4_45 ?_
  refine z_iadd hx hb dJ6_bitCount_0f7a4_46 ?_
  refine lv_istore_n (lv' := [(0, .int (iZ (((aZ (((aZ (x1 - (aZ (tZ x1 1) 1431655765)) 858993459) + (aZ (tZ (x1 - (aZ (tZ x1 1) 1431655765)) 2) 858993459)) + (tZ ((aZ (x1 - (aZ (tZ x1 1) 1431655765)) 858993459) + (aZ (tZ (x1 - (aZ (tZ x1 1) 1431655765)) 2) 858993459)) 4)) 252645135) + (tZ (aZ (((aZ (x1 - (aZ (tZ x1 1) 1431655765)) 858993459) + (aZ (tZ (x1 - (aZ (tZ x1 1) 1431655765)) 2) 858993459)) + (tZ ((aZ (x1 - (aZ (tZ x1 1) 1431655765)) 858993459) + (aZ (tZ (x1 - (aZ (tZ x1 1) 1431655765)) 2) 858993459)) 4)) 252645135) 8)) + (tZ ((aZ (((aZ (x1 - (aZ (tZ x1 1) 1431655765)) 858993459) + (aZ (tZ (x1 - (aZ (tZ x1 1) 1431655765)) 2) 858993459)) + (tZ ((aZ (x1 - (aZ (tZ x1 1) 1431655765)) 858993459) + (aZ (tZ (x1 - (aZ (tZ x1 1) 1431655765)) 2) 858993459)) 4)) 252645135) + (tZ (aZ (((aZ (x1 - (aZ (tZ x1 1) 1431655765)) 858993459) + (aZ (tZ (x1 - (aZ (tZ x1 1) 1431655765)) 2) 858993459)) + (tZ ((aZ (x1 - (aZ (tZ x1 1) 1431655765)) 858993459) + (aZ (tZ (x1 - (aZ (tZ x1 1) 1431655765)) 2) 858993459)) 4)) 252645135) 8)) 16))))]) hx hb dJ6_bitCount_0f7a4_47 rfl hl (by decide) rfl (fun ls hl => ?_)
  refine lv_iload_n hx hb dJ6_bitCount_0f7a4_48 rfl (lv_at hl 0 rfl) ?_
  refine z_bipush hx hb dJ6_bitCount_0f7a4_49 (by decide) ?_
  refine z_iand hx hb dJ6_bitCount_0f7a4_51 ?_
  cases h
  exact kr _ _ _ _ dJ6_bitCount_0f7a4_52 hP hD hS
set_option maxHeartbeats 4000000 in
set_option maxRecDepth 100000 in
theorem cJ6_bitCount_0f7a4_m (l : Launch) (G : ZG) (D : va_G) (cA : Nat → ClassId) (x1 : Int) (sz N : Nat) {r : Int} (hF : fJ6_bitCount_0f7a4 N x1 = some r) : zMi l yJ6_bitCount_0f7a4 vJ6_bitCount_0f7a4 rmJ6_bitCount_0f7a4 G D cA [.int (iZ x1)] (wJ6_bitCount_0f7a4 cA ) (wJ6_bitCount_0f7a4 cA ) r sz := by
  refine Met.ofW (cc := cJ6_bitCount_0f7a4) (maxL := 1) (ret := (some .int)) (by decide) rfl ?_
  intro p e s m args below meth c s₁ B hml hv
  obtain ⟨rfl, hsz, hP, hK, hD0, hZ⟩ := hv
  subst hsz
  have hlocks := B.notSynchronized
  have hl := lv_entry ([.int (iZ x1)]) (n := 1) (Nat.le_of_ble_eq_true rfl)
  rw [lg_entry_eq]
  generalize (lg_sl ([.int (iZ x1)]) ++ List.replicate (1 - (lg_sl ([.int (iZ x1)])).length) Slot.unset).toArray = ls at hl ⊢
  exact wJ6_bitCount_0f7a4_E p l e s m _ below meth c _ G D cA _ N ⟨B.exec, B.bytes, hml, findClass_of_methodNamed B.named, atoms_spec (ws := vJ6_bitCount_0f7a4) B.pre⟩ hK (fun q h => Or.inr h) hZ r (fun pc H locs ls hd hP hD hS => W.iret B.exec B.bytes B.returns (fun t ht hW => ⟨⟨_, (), rfl, rfl, by rw [ht]; exact hP, va_K.moved hW.alike hK, hD⟩, hS.F ht⟩) hS.2.2 hd) x1 hF s.heap [] hP (hD0.self (sz := s.heap.size)) va_S.rf ls hl
